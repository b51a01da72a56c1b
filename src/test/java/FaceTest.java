import java.lang.reflect.Constructor;
import java.lang.reflect.Field;
import java.lang.reflect.Method;
import java.lang.reflect.Modifier;
import java.util.Set;
import java.util.TreeSet;

/** The class has the document's public face, and every other member is private. */
public final class FaceTest {
    private static int wrong = 0;

    public static void main(String[] args) {
        Class<?> c = TwoFlows.class;
        int classModifiers = c.getModifiers();
        due("class modifiers", Modifier.toString(classModifiers), "public final");
        due("nested classes", String.valueOf(c.getDeclaredClasses().length), "0");
        due("superclass", c.getSuperclass().getName(), "java.lang.Object");
        due("interfaces", String.valueOf(c.getInterfaces().length), "0");
        constructors(c);
        methods(c);
        fields(c);
        System.out.println(wrong == 0 ? "the face is as due" : wrong + " parts of the face are not as due");
        if (wrong != 0) {
            System.exit(1);
        }
    }

    private static void due(String what, String got, String want) {
        if (!got.equals(want)) {
            wrong++;
            System.out.println(what + ": " + got + ", due is " + want);
        }
    }

    private static void constructors(Class<?> c) {
        Set<String> got = new TreeSet<>();
        for (Constructor<?> made : c.getDeclaredConstructors()) {
            got.add(made.toString());
        }
        due("constructors", got.toString(), "[public TwoFlows()]");
    }

    private static void methods(Class<?> c) {
        Set<String> got = new TreeSet<>();
        for (Method m : c.getDeclaredMethods()) {
            if (!Modifier.isPrivate(m.getModifiers())) {
                got.add(m.toString().replace("TwoFlows.", ""));
            }
        }
        Set<String> want = new TreeSet<>(Set.of(
            "public boolean set(int,int,int)",
            "public int capacity(int,int)",
            "public int width(int)",
            "public boolean carries(int,int)",
            "public int alone(int)",
            "public int most()",
            "public int besides(int)",
            "public int evenly()",
            "public int pairs()",
            "public int worth(int,int)",
            "public int loss(int,int)",
            "public boolean full(int,int)"));
        due("methods", got.toString(), want.toString());
    }

    private static void fields(Class<?> c) {
        Set<String> got = new TreeSet<>();
        for (Field f : c.getDeclaredFields()) {
            if (!Modifier.isPrivate(f.getModifiers())) {
                got.add(f.toString());
            }
        }
        due("constants", got.toString(), "[public static final int TwoFlows.BAD]");
        due("BAD", String.valueOf(TwoFlows.BAD), "-1");
    }
}
