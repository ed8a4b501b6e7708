import java.lang.reflect.Constructor;
import java.lang.reflect.Field;
import java.lang.reflect.Method;
import java.lang.reflect.Modifier;
import java.util.Arrays;
import java.util.TreeSet;

/** The class shows the face that the document gives it, and nothing else. */
public final class FaceTest {
    private static int wrong = 0;

    private static void due(String what, Object got, Object want) {
        if (!got.equals(want)) {
            wrong++;
            System.out.println(what + " is " + got + ", due is " + want);
        }
    }

    public static void main(String[] args) {
        Class<?> c = ColourfulForest.class;
        due("the class's modifiers", Modifier.toString(c.getModifiers()), "public final");

        TreeSet<String> methods = new TreeSet<>();
        for (Method m : c.getDeclaredMethods()) {
            if (!Modifier.isPrivate(m.getModifiers())) {
                methods.add(m.toString());
            }
        }
        TreeSet<String> wanted = new TreeSet<>();
        for (String face : Arrays.asList(
                "link(int,int,int)", "cut(int)", "weigh(int,int)", "paint(int,int)", "quota(int,int)",
                "edges()", "isGood(int)", "best()", "bestSet()", "bestOf(int)", "bestSetOf(int)",
                "greatest()", "bestWith(int)", "bestWithout(int)", "spares()", "rank()")) {
            wanted.add("public int ColourfulForest." + face);
        }
        due("the set of methods", methods, wanted);

        TreeSet<String> constructors = new TreeSet<>();
        for (Constructor<?> k : c.getDeclaredConstructors()) {
            constructors.add(k.toString());
        }
        due("the set of constructors", constructors, new TreeSet<>(Arrays.asList("public ColourfulForest(int)")));

        for (Field f : c.getDeclaredFields()) {
            due("whether " + f.getName() + " is private", Modifier.isPrivate(f.getModifiers()), true);
        }
        due("the number of nested classes", c.getDeclaredClasses().length, 0);

        System.out.println(wrong == 0 ? "the face is as due" : wrong + " parts of the face are not as due");
        if (wrong != 0) {
            System.exit(1);
        }
    }
}
