import java.lang.reflect.Constructor;
import java.lang.reflect.Field;
import java.lang.reflect.Method;
import java.lang.reflect.Modifier;
import java.util.Arrays;
import java.util.Set;
import java.util.TreeSet;
import java.util.stream.Collectors;

/** The public face: exactly the document's, with what each method may throw. */
public final class FaceTest {
    private static final String FACE = """
            int set(int, int) throws IllegalArgumentException
            int clay(int) throws IllegalArgumentException, UnsupportedOperationException
            int cast(int, int, int) throws IllegalArgumentException, UnsupportedOperationException
            int glaze(int, int, int) throws IndexOutOfBoundsException, IllegalArgumentException, UnsupportedOperationException
            int saggar() throws UnsupportedOperationException
            int stack(int, int, int) throws IndexOutOfBoundsException, IllegalArgumentException, UnsupportedOperationException
            int unstack(int) throws IndexOutOfBoundsException, UnsupportedOperationException
            int put(int, int) throws IndexOutOfBoundsException, UnsupportedOperationException
            int fire(int) throws IllegalArgumentException, UnsupportedOperationException
            int empty(int) throws IndexOutOfBoundsException, UnsupportedOperationException
            int order(int, int, int, int, int, boolean) throws IllegalArgumentException, UnsupportedOperationException
            int sell(int) throws IndexOutOfBoundsException, UnsupportedOperationException
            int ware(int, int) throws IndexOutOfBoundsException, IllegalArgumentException
            int saggarOf(int, int) throws IndexOutOfBoundsException, IllegalArgumentException
            int load(int) throws IndexOutOfBoundsException
            int loadAgain(int) throws IndexOutOfBoundsException
            int orderOf(int, int) throws IndexOutOfBoundsException, IllegalArgumentException
            char sign(int) throws IndexOutOfBoundsException
            int store(int, int, boolean) throws IllegalArgumentException
            int heatAt(int, int) throws IndexOutOfBoundsException, IllegalArgumentException, NoSuchElementException
            int wouldBe(int, int) throws IndexOutOfBoundsException, IllegalArgumentException
            int bestHeat(boolean) throws NoSuchElementException
            int sets(int) throws IndexOutOfBoundsException
            int setsAgain(int) throws IndexOutOfBoundsException
            int append(char) throws IllegalStateException
            int read() throws IllegalArgumentException, UnsupportedOperationException
            int faultPosition()
            int refusal(int, boolean) throws IllegalArgumentException, NoSuchElementException
            int account(int) throws IllegalArgumentException
            boolean isBalanced()
            double firstShare() throws ArithmeticException
            float meanLoad() throws ArithmeticException
            int undo() throws IllegalStateException
            int save()
            int restore() throws IllegalStateException
            """;

    private static int wrong;

    public static void main(String[] args) {
        Set<String> due = new TreeSet<>(Arrays.asList(FACE.strip().split("\n")));
        Set<String> there = new TreeSet<>();
        for (Method method : SaggarKiln.class.getDeclaredMethods()) {
            if (!Modifier.isPrivate(method.getModifiers()) && !method.isSynthetic()) {
                check(Modifier.isPublic(method.getModifiers()), "a method that is neither public nor private: " + method);
                check(!Modifier.isStatic(method.getModifiers()), "a static method in the face: " + method);
                there.add(written(method));
            }
        }
        check(due.equals(there), "the methods are " + there + ", due are " + due);
        for (Field field : SaggarKiln.class.getDeclaredFields()) {
            check(Modifier.isPrivate(field.getModifiers()), "a field that is not private: " + field);
        }
        Constructor<?>[] constructors = SaggarKiln.class.getDeclaredConstructors();
        check(constructors.length == 1 && Modifier.isPublic(constructors[0].getModifiers())
                && constructors[0].getParameterCount() == 0, "not the one public constructor");
        check(Modifier.isPublic(SaggarKiln.class.getModifiers()) && Modifier.isFinal(SaggarKiln.class.getModifiers()),
                "the class is not public and final");
        System.out.println("face: " + there.size() + " methods, " + wrong + " wrong");
        if (wrong != 0) {
            System.exit(1);
        }
    }

    private static void check(boolean isFine, String otherwise) {
        if (!isFine) {
            wrong++;
            System.out.println(otherwise);
        }
    }

    private static String written(Method method) {
        String thrown = names(method.getExceptionTypes());
        return method.getReturnType().getSimpleName() + " " + method.getName() + "(" + names(method.getParameterTypes())
                + ")" + (thrown.isEmpty() ? "" : " throws " + thrown);
    }

    private static String names(Class<?>[] types) {
        return Arrays.stream(types).map(Class::getSimpleName).collect(Collectors.joining(", "));
    }
}
