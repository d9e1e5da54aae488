import java.lang.reflect.Field;
import java.lang.reflect.Method;
import java.lang.reflect.Modifier;
import java.util.Arrays;
import java.util.List;
import java.util.TreeSet;

/** The public face: the class, its constructor and its methods, and nothing else that is not private. */
public final class FaceTest {
    private static final List<String> METHODS = List.of(
            "public int ShortestPrinter.print(long)",
            "public int ShortestPrinter.printFloat(int)",
            "public long ShortestPrinter.word(int) throws java.lang.IndexOutOfBoundsException");

    public static void main(String[] args) {
        Checks checks = new Checks();
        Class<?> face = ShortestPrinter.class;
        checks.due("modifiers of the class", Modifier.toString(face.getModifiers()), "public final");
        checks.due("constructors", Arrays.toString(face.getDeclaredConstructors()), "[public ShortestPrinter()]");
        TreeSet<String> seen = new TreeSet<>();
        for (Method method : face.getDeclaredMethods()) {
            if (!Modifier.isPrivate(method.getModifiers())) {
                seen.add(method.toString());
            }
        }
        checks.due("methods", seen, new TreeSet<>(METHODS));
        for (Field field : face.getDeclaredFields()) {
            checks.due("private " + field, Modifier.isPrivate(field.getModifiers()), true);
        }
        for (Class<?> inside : face.getDeclaredClasses()) {
            checks.due("static " + inside, Modifier.isStatic(inside.getModifiers()), true);
            checks.due("public or protected " + inside, inside.getModifiers() & (Modifier.PUBLIC | Modifier.PROTECTED), 0);
        }
        checks.end();
    }
}
