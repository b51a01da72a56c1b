import java.lang.reflect.Constructor;
import java.lang.reflect.Field;
import java.lang.reflect.Method;
import java.lang.reflect.Modifier;
import java.util.Set;
import java.util.TreeSet;

/** The class has the document's public face, and every other member is private. */
public final class FaceTest {
    public static void main(String[] args) {
        Class<?> c = TwoFlows.class;
        int classModifiers = c.getModifiers();
        Check.due("class modifiers", Modifier.toString(classModifiers), "public final");
        Check.due("nested classes", String.valueOf(c.getDeclaredClasses().length), "0");
        Check.due("superclass", c.getSuperclass().getName(), "java.lang.Object");
        Check.due("interfaces", String.valueOf(c.getInterfaces().length), "0");
        constructors(c);
        methods(c);
        fields(c);
        Check.end();
    }

    private static void constructors(Class<?> c) {
        Set<String> got = new TreeSet<>();
        for (Constructor<?> made : c.getDeclaredConstructors()) {
            got.add(made.toString());
        }
        Check.due("constructors", got.toString(), "[public TwoFlows()]");
    }

    private static void methods(Class<?> c) {
        Set<String> got = new TreeSet<>();
        for (Method m : c.getDeclaredMethods()) {
            if (!Modifier.isPrivate(m.getModifiers())) {
                got.add(m.toString().replace("TwoFlows.", ""));
            }
        }
        Set<String> want = new TreeSet<>(Set.of(
            "public boolean set(int,int,int)",
            "public int capacity(int,int)",
            "public int width(int)",
            "public boolean carries(int,int)",
            "public int alone(int)",
            "public int most()",
            "public int besides(int)",
            "public int evenly()",
            "public int pairs()",
            "public int worth(int,int)",
            "public int loss(int,int)",
            "public boolean full(int,int)"));
        Check.due("methods", got.toString(), want.toString());
    }

    private static void fields(Class<?> c) {
        Set<String> got = new TreeSet<>();
        for (Field f : c.getDeclaredFields()) {
            if (!Modifier.isPrivate(f.getModifiers())) {
                got.add(f.toString());
            }
        }
        Check.due("constants", got.toString(), "[public static final int TwoFlows.BAD]");
        Check.due("BAD", String.valueOf(TwoFlows.BAD), "-1");
    }
}
