import java.lang.reflect.Constructor;
import java.lang.reflect.Field;
import java.lang.reflect.Method;
import java.lang.reflect.Modifier;
import java.util.ArrayList;
import java.util.Arrays;
import java.util.List;
import java.util.TreeSet;

/** The class has the members that the document's face names, and no others that can be seen. */
public final class FaceTests {
    private static final String[] FACE = {
        "int production(int) throws IllegalArgumentException, IllegalStateException",
        "void symbol(int) throws IllegalArgumentException, IllegalStateException",
        "void open()",
        "void clear()",
        "int build() throws IllegalStateException, ArithmeticException,"
            + " UnsupportedOperationException",
        "int conflict(int)",
        "int states()",
        "int items(int) throws NoSuchElementException",
        "int item(int, int, int) throws NoSuchElementException",
        "int action(int, int) throws NoSuchElementException",
        "int follow(int, int) throws NoSuchElementException",
        "boolean nullable(int) throws IllegalArgumentException",
        "int first(int) throws IllegalArgumentException",
        "void begin() throws IllegalStateException",
        "boolean feed(int) throws IllegalArgumentException, IllegalStateException",
        "boolean finish() throws IllegalStateException",
        "int state()",
        "int depth()",
        "int used()",
        "int use(int) throws NoSuchElementException",
        "int NONE",
        "TableMaker(int, int)",
    };

    public static void main(String[] args) {
        TreeSet<String> due = new TreeSet<>(Arrays.asList(FACE));
        TreeSet<String> found = new TreeSet<>(visibleMembers());
        boolean right = due.equals(found) && areClassesHidden() && areNamesApart();
        int modifiers = TableMaker.class.getModifiers();
        right &= Modifier.isPublic(modifiers) && Modifier.isFinal(modifiers);
        if (!due.equals(found)) {
            System.out.println("due are " + due + ", found were " + found);
        }
        System.out.println(right ? "the face is as due" : "the face is wrong");
        if (!right) {
            System.exit(1);
        }
    }

    private static List<String> visibleMembers() {
        List<String> found = new ArrayList<>();
        for (Method m : TableMaker.class.getDeclaredMethods()) {
            if (!Modifier.isPrivate(m.getModifiers()) && !m.isSynthetic()) {
                found.add(m.getReturnType() + " " + m.getName() + list(m.getParameterTypes())
                        + thrown(m.getExceptionTypes()));
            }
        }
        for (Field f : TableMaker.class.getDeclaredFields()) {
            if (!Modifier.isPrivate(f.getModifiers())) {
                found.add(f.getType() + " " + f.getName());
            }
        }
        for (Constructor<?> c : TableMaker.class.getDeclaredConstructors()) {
            if (!Modifier.isPrivate(c.getModifiers())) {
                found.add("TableMaker" + list(c.getParameterTypes()));
            }
        }
        return found;
    }

    private static boolean areClassesHidden() {
        boolean hidden = true;
        for (Class<?> c : TableMaker.class.getDeclaredClasses()) {
            int m = c.getModifiers();
            hidden &= Modifier.isStatic(m) && !Modifier.isPublic(m) && !Modifier.isProtected(m);
        }
        return hidden;
    }

    /** No method of a class inside, nor a private one, bears the name of a public one. */
    private static boolean areNamesApart() {
        TreeSet<String> names = new TreeSet<>();
        for (Method m : TableMaker.class.getDeclaredMethods()) {
            if (!names.add(m.getName())) {
                System.out.println("twice: " + m.getName());
                return false;
            }
        }
        boolean apart = true;
        for (Class<?> c : TableMaker.class.getDeclaredClasses()) {
            for (Method m : c.getDeclaredMethods()) {
                if (names.contains(m.getName())) {
                    System.out.println("twice: " + m.getName());
                    apart = false;
                }
            }
        }
        return apart;
    }

    private static String list(Class<?>[] types) {
        return "(" + joined(types) + ")";
    }

    private static String thrown(Class<?>[] types) {
        return types.length == 0 ? "" : " throws " + joined(types);
    }

    private static String joined(Class<?>[] types) {
        StringBuilder text = new StringBuilder();
        for (Class<?> type : types) {
            text.append(text.length() == 0 ? "" : ", ").append(type.getSimpleName());
        }
        return text.toString();
    }
}
