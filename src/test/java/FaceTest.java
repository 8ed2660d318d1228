import java.lang.reflect.Constructor;
import java.lang.reflect.Field;
import java.lang.reflect.Method;
import java.lang.reflect.Modifier;
import java.util.Arrays;
import java.util.Set;
import java.util.TreeSet;

/** The class has the constants, the constructor and the methods of the document, and shows nothing else. */
public final class FaceTest {
    private static int wrong = 0;

    private static void due(String what, Object got, Object want) {
        if (!want.equals(got)) {
            wrong++;
            System.out.println(what + " is " + got + ", due is " + want);
        }
    }

    public static void main(String[] args) {
        due("the class's modifiers", Modifier.toString(LayoutWidths.class.getModifiers()), "public final");
        due("the constructors", constructors(), Set.of("public LayoutWidths()"));
        due("the methods", methods(), new TreeSet<>(Arrays.asList(
            "public int LayoutWidths.line(int,int)",
            "public int LayoutWidths.clear()",
            "public int LayoutWidths.lines()",
            "public int LayoutWidths.cutWidth()",
            "public int LayoutWidths.separation()",
            "public int LayoutWidths.stretch()",
            "public int LayoutWidths.length()",
            "public int LayoutWidths.width()",
            "public int LayoutWidths.fill()",
            "public int LayoutWidths.cutOrders()",
            "public int LayoutWidths.lengthOrders()",
            "public int LayoutWidths.fillOrders()",
            "public int LayoutWidths.lengthOrder(int)",
            "public int LayoutWidths.widthOrder(int)",
            "public boolean LayoutWidths.whole()",
            "public int LayoutWidths.growth(int,int)",
            "public int LayoutWidths.clique()")));
        due("the constants", constants(), new TreeSet<>(Arrays.asList(
            "public static final int LayoutWidths.BAD_ARG",
            "public static final int LayoutWidths.NONE")));
        due("BAD_ARG", LayoutWidths.BAD_ARG, -1);
        due("NONE", LayoutWidths.NONE, -4);
        due("the number of nested classes", LayoutWidths.class.getDeclaredClasses().length, 0);
        System.out.println(wrong == 0 ? "the face is as due" : wrong + " parts of the face are not as due");
        if (wrong != 0) {
            System.exit(1);
        }
    }

    private static Set<String> constructors() {
        Set<String> seen = new TreeSet<>();
        for (Constructor<?> made : LayoutWidths.class.getDeclaredConstructors()) {
            seen.add(made.toString());
        }
        return seen;
    }

    private static Set<String> methods() {
        Set<String> seen = new TreeSet<>();
        for (Method method : LayoutWidths.class.getDeclaredMethods()) {
            if (!Modifier.isPrivate(method.getModifiers())) {
                seen.add(method.toString());
            }
        }
        return seen;
    }

    private static Set<String> constants() {
        Set<String> seen = new TreeSet<>();
        for (Field field : LayoutWidths.class.getDeclaredFields()) {
            if (!Modifier.isPrivate(field.getModifiers())) {
                seen.add(field.toString());
            }
        }
        return seen;
    }
}
