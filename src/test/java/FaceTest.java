import java.lang.reflect.Constructor;
import java.lang.reflect.Field;
import java.lang.reflect.Method;
import java.lang.reflect.Modifier;
import java.util.Arrays;
import java.util.Set;
import java.util.TreeSet;
import java.util.stream.Collectors;

/** The public face is the document's, and nothing else can be seen from outside. */
public final class FaceTest {
    private static final String[] METHODS = {
        "boolean hasNext(int) IndexOutOfBoundsException",
        "byte control(int,int) IndexOutOfBoundsException",
        "int closeSweep(int) IndexOutOfBoundsException",
        "int comparisons(int)",
        "int displaced(int) IllegalStateException",
        "int distanceAt(int,int) IndexOutOfBoundsException",
        "int get(int)",
        "int groups(int)",
        "int hash(int)",
        "int keyAt(int,int) IndexOutOfBoundsException,IllegalStateException",
        "int keysIn(int) IndexOutOfBoundsException",
        "int longest()",
        "int move()",
        "int moves()",
        "int next(int) IndexOutOfBoundsException,IllegalStateException",
        "int openSweep() IllegalStateException",
        "int plainLongest()",
        "int plainTotal()",
        "int put(int,int) IllegalArgumentException,IllegalStateException",
        "int remove(int)",
        "int removeMet(int) IndexOutOfBoundsException,IllegalStateException",
        "int size()",
        "int slots(int) IndexOutOfBoundsException",
        "int total()",
        "void clear(int) IllegalArgumentException",
    };
    private static final String[] CONSTANTS = {"MIXED=1", "NONE=-1", "OLD=1", "PLAIN=0", "PRESENT=0"};

    public static void main(String[] args) throws IllegalAccessException {
        Checks checks = new Checks("FaceTest");
        checks.due("class is public final",
                RobinRow.class.getModifiers() & (Modifier.PUBLIC | Modifier.FINAL), Modifier.PUBLIC | Modifier.FINAL);
        checks.due("methods", methods().toString(), Arrays.asList(METHODS).toString());
        checks.due("constants", constants().toString(), Arrays.asList(CONSTANTS).toString());
        Constructor<?>[] constructors = RobinRow.class.getDeclaredConstructors();
        checks.due("constructors", constructors.length, 1);
        checks.due("constructor is public", Modifier.isPublic(constructors[0].getModifiers()), true);
        checks.due("constructor's parameters", constructors[0].getParameterCount(), 0);
        checks.due("hidden methods with a public name", doubledNames().toString(), "[]");
        checks.due("static fields that are not final", loose().toString(), "[]");
        checks.close();
    }

    private static Set<String> methods() {
        Set<String> seen = new TreeSet<>();
        for (Method method : RobinRow.class.getDeclaredMethods()) {
            if (!Modifier.isPrivate(method.getModifiers())) {
                String thrown = names(method.getExceptionTypes());
                seen.add((Modifier.isPublic(method.getModifiers()) ? "" : "hidden ")
                        + method.getReturnType().getSimpleName() + " " + method.getName()
                        + "(" + names(method.getParameterTypes()) + ")" + (thrown.isEmpty() ? "" : " " + thrown));
            }
        }
        return seen;
    }

    private static String names(Class<?>[] types) {
        return Arrays.stream(types).map(Class::getSimpleName).collect(Collectors.joining(","));
    }

    private static Set<String> constants() throws IllegalAccessException {
        Set<String> seen = new TreeSet<>();
        for (Field field : RobinRow.class.getDeclaredFields()) {
            if (!Modifier.isPrivate(field.getModifiers())) {
                boolean isConstant = Modifier.isStatic(field.getModifiers()) && Modifier.isFinal(field.getModifiers())
                        && Modifier.isPublic(field.getModifiers()) && field.getType() == int.class;
                seen.add(field.getName() + "=" + (isConstant ? field.get(null) : "no constant"));
            }
        }
        return seen;
    }

    private static Set<String> doubledNames() {
        Set<String> open = new TreeSet<>();
        for (Method method : RobinRow.class.getMethods()) {
            open.add(method.getName());
        }
        Set<String> doubled = new TreeSet<>();
        for (Method method : RobinRow.class.getDeclaredMethods()) {
            if (!Modifier.isPublic(method.getModifiers()) && open.contains(method.getName())) {
                doubled.add(method.getName());
            }
        }
        for (Class<?> inside : RobinRow.class.getDeclaredClasses()) {
            for (Method method : inside.getDeclaredMethods()) {
                if (open.contains(method.getName())) {
                    doubled.add(inside.getSimpleName() + "." + method.getName());
                }
            }
        }
        return doubled;
    }

    private static Set<String> loose() {
        Set<String> seen = new TreeSet<>();
        for (Field field : RobinRow.class.getDeclaredFields()) {
            if (Modifier.isStatic(field.getModifiers()) && !Modifier.isFinal(field.getModifiers())) {
                seen.add(field.getName());
            }
        }
        return seen;
    }
}
