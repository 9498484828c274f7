import java.lang.reflect.Constructor;
import java.lang.reflect.Field;
import java.lang.reflect.Method;
import java.lang.reflect.Modifier;
import java.util.List;
import java.util.Set;
import java.util.TreeSet;

/** The face of the document and the members of the classes inside: rules 1, 2, 5 and 11 of LANGUAGE.md. RulesTest has the others. */
public final class LanguageTest {
    private static final Check c = new Check();

    private static final Set<String> FACE = new TreeSet<>(List.of(
        "int feed(int)", "int land()", "int person(int,int,int,int)", "int of(int,int)", "int strength(int,int)",
        "int row(int,int)", "int thing(int)", "int at(int,int)", "int give(int,int)", "int like(int,int)", "int when()",
        "int bench(int)", "int year()", "int best(int)", "int most()", "int train(int)", "int moved()",
        "int gives(int,int)", "long parts(int,int)", "int swap(int)", "int rest()", "int fair(int,int,int)",
        "int had(int,int)", "long odds(int)", "int see(int,boolean)", "int looked()", "int act(int,int,int)",
        "int trace(int)", "int as(int,int)", "int image()", "int undo()", "int count(int)"));

    public static void main(String[] args) {
        face();
        for (Class<?> inside : OwnsLift.class.getDeclaredClasses()) {
            inside(inside);
        }
        c.due("11: classes, at most 13", Math.max(13, OwnsLift.class.getDeclaredClasses().length + 1), 13);
        c.end("LanguageTest");
    }

    private static void holds(String rule, boolean so) {
        c.due(rule, so ? 1 : 0, 1);
    }

    private static String signature(Method m) {
        StringBuilder s = new StringBuilder(m.getReturnType().getName() + " " + m.getName() + "(");
        for (Class<?> type : m.getParameterTypes()) {
            s.append(s.charAt(s.length() - 1) == '(' ? "" : ",").append(type.getName());
        }
        return s.append(")").toString();
    }

    private static void face() {
        Class<?> face = OwnsLift.class;
        holds("1: public and final", Modifier.isPublic(face.getModifiers()) && Modifier.isFinal(face.getModifiers()));
        Set<String> open = new TreeSet<>();
        for (Method m : face.getDeclaredMethods()) {
            if (!Modifier.isPrivate(m.getModifiers())) {
                open.add(signature(m));
                holds("1: " + m + " is public", Modifier.isPublic(m.getModifiers()));
            } else {
                holds("1: the name of " + m, FACE.stream().noneMatch(f -> f.contains(" " + m.getName() + "(")));
            }
        }
        c.due("the face", open.toString(), FACE.toString());
        Constructor<?>[] made = face.getDeclaredConstructors();
        holds("1: one constructor, without arguments", made.length == 1 && made[0].getParameterCount() == 0);
        Set<String> fields = new TreeSet<>();
        for (Field f : face.getDeclaredFields()) {
            holds("5: " + f, !Modifier.isStatic(f.getModifiers()) || Modifier.isFinal(f.getModifiers()));
            if (!Modifier.isPrivate(f.getModifiers())) {
                fields.add(f.getType() + " " + f.getName());
            }
        }
        c.due("the constants", fields.toString(), "[int BAD, int FULL, int NONE, int STATE, long NO]");
    }

    private static void inside(Class<?> inside) {
        int m = inside.getModifiers();
        holds("1, 2: " + inside, Modifier.isStatic(m) && !Modifier.isPublic(m) && !Modifier.isProtected(m));
        int fields = 0;
        for (Field f : inside.getDeclaredFields()) {
            holds("5: " + f, !Modifier.isStatic(f.getModifiers()) || Modifier.isFinal(f.getModifiers()));
            fields += Modifier.isStatic(f.getModifiers()) ? 0 : 1;
        }
        holds("11: fields of " + inside, fields <= 20);
        for (Method method : inside.getDeclaredMethods()) {
            holds("1: the name of " + method, FACE.stream().noneMatch(f -> f.contains(" " + method.getName() + "(")));
            holds("11: " + method, method.getParameterCount() <= 7);
            holds("1: " + method, !Modifier.isPublic(method.getModifiers()));
        }
    }
}
