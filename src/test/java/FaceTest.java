import java.lang.reflect.Constructor;
import java.lang.reflect.Field;
import java.lang.reflect.Method;
import java.lang.reflect.Modifier;
import java.util.HashSet;
import java.util.Set;
import java.util.TreeSet;

/** The public face of the document and the rules 1, 2, 4, 5 and 10 of LANGUAGE.md, as far as reflection shows them. */
public final class FaceTest {
    private static final String[] FACE = {
        "int rule(int)", "boolean condition(int,boolean)", "boolean test(int,int,int)",
        "boolean make(int,int,int,int)", "boolean act(int,int)", "boolean finish()", "int add(int,int,int,int)",
        "boolean remove(int)", "int run(int)", "int agenda()", "int ruleAt(int)", "int factAt(int,int)",
        "int facts()", "int fact(int,int)", "int printed(int)",
    };

    private static int wrong = 0;

    private static void check(boolean holds, String what) {
        if (!holds) {
            wrong++;
            System.out.println("not so: " + what);
        }
    }

    private static String signature(Method m) {
        StringBuilder s = new StringBuilder(m.getReturnType().getName() + " " + m.getName() + "(");
        for (int i = 0; i < m.getParameterCount(); i++) {
            s.append(i == 0 ? "" : ",").append(m.getParameterTypes()[i].getName());
        }
        return s.append(")").toString();
    }

    private static boolean isWhole(Class<?> type) {
        return type.isPrimitive() && type != float.class && type != double.class && type != void.class;
    }

    private static void methods(Class<?> c) {
        Set<String> face = new TreeSet<>();
        Set<String> publicNames = new HashSet<>();
        for (Method m : c.getDeclaredMethods()) {
            if (!Modifier.isPrivate(m.getModifiers())) {
                check(Modifier.isPublic(m.getModifiers()), m.getName() + " is public or private");
                check(!Modifier.isStatic(m.getModifiers()), m.getName() + " is not static");
                face.add(signature(m));
                publicNames.add(m.getName());
            }
        }
        check(face.equals(new TreeSet<>(Set.of(FACE))), "the public methods are those of the document: " + face);
        for (Method m : c.getDeclaredMethods()) {
            check(m.getParameterCount() <= 7, m.getName() + " takes at most seven parameters");
            check(!m.getReturnType().isArray(), m.getName() + " answers no array");
            check(!Modifier.isPrivate(m.getModifiers()) || !publicNames.contains(m.getName()),
                    m.getName() + " is private and has no public namesake");
        }
    }

    private static void fields(Class<?> c) {
        int state = 0;
        for (Field f : c.getDeclaredFields()) {
            check(Modifier.isPrivate(f.getModifiers()), f.getName() + " is private");
            if (Modifier.isStatic(f.getModifiers())) {
                check(Modifier.isFinal(f.getModifiers()), f.getName() + " is a constant");
                check(f.getType() == int.class || f.getType() == long.class, f.getName() + " is an int or a long");
            } else {
                state++;
                Class<?> type = f.getType().isArray() ? f.getType().getComponentType() : f.getType();
                check(isWhole(type), f.getName() + " is a whole number, a boolean or a row of them");
                check(!f.getType().isArray() || Modifier.isFinal(f.getModifiers()), f.getName() + " is final");
            }
        }
        check(state <= 40, "at most forty fields: " + state);
    }

    public static void main(String[] args) {
        Class<?> c = ForwardRuleEngine.class;
        check(Modifier.isPublic(c.getModifiers()) && Modifier.isFinal(c.getModifiers()), "the class is public final");
        check(c.getSuperclass() == Object.class && c.getInterfaces().length == 0, "the class stands alone");
        check(c.getDeclaredClasses().length == 0, "there is no nested class");
        check(c.getPackageName().isEmpty(), "there is no package");
        Constructor<?>[] made = c.getDeclaredConstructors();
        check(made.length == 1 && Modifier.isPublic(made[0].getModifiers()) && made[0].getParameterCount() == 0,
                "there is one public constructor without parameters");
        methods(c);
        fields(c);
        System.out.println(wrong == 0 ? "the face is as due" : wrong + " things are not as due");
        if (wrong != 0) {
            System.exit(1);
        }
    }
}
