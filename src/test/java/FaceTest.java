import java.lang.reflect.Constructor;
import java.lang.reflect.Method;
import java.lang.reflect.Modifier;
import java.util.Arrays;
import java.util.Set;
import java.util.TreeSet;
import java.util.stream.Collectors;

/** The public face, as the document lists it, and nothing else outside of the class. */
public final class FaceTest {
    private static final String I = "IndexOutOfBoundsException";
    private static final String A = "IllegalArgumentException";
    private static final String S = "IllegalStateException";

    public static void main(String[] args) {
        Set<String> due = new TreeSet<>(Set.of(
            face("int preform", 0, S), face("int soot", 3, I, A, S), face("int draw", 2, I, A, S),
            face("int flaw", 3, I, A, S), face("int proof", 2, I, A, S), face("int cable", 3, A, S),
            face("int lay", 3, I, A, S), face("int splice", 6, I, A, S), face("int part", 3, I, S),
            face("int dig", 2, I, A, S), face("int bend", 3, I, A, S), face("int mend", 1, I),
            face("int ofPreform", 2, I, A), face("int ofReel", 2, I, A), face("int ofCable", 2, I, A),
            face("int way", 4, I, A), face("int pulse", 5, I, A), face("double decibels", 3, I),
            face("int many", 1, A), face("int bestReel", 1, I), face("int pieces", 1, A), face("int single", 1, I),
            face("int locate", 3, I), face("long digest", 0)));
        Set<String> got = new TreeSet<>();
        Set<String> hidden = new TreeSet<>();
        for (Method method : Preformtower.class.getDeclaredMethods()) {
            if (Modifier.isPrivate(method.getModifiers())) {
                hidden.add(method.getName());
            } else {
                got.add(face(method));
            }
        }
        if (!due.equals(got)) {
            Check.wrong("the face is " + got + ", due is " + due);
        }
        hidden.removeIf(name -> due.stream().noneMatch(line -> line.contains(" " + name + "(")));
        Check.due("private methods that bear a public name: " + hidden, 0, hidden.size());
        Check.due("fields that are not private", 0, Arrays.stream(Preformtower.class.getDeclaredFields())
            .filter(field -> !Modifier.isPrivate(field.getModifiers())).count());
        Check.due("static fields that are not final", 0, Arrays.stream(Preformtower.class.getDeclaredFields())
            .filter(field -> Modifier.isStatic(field.getModifiers()) && !Modifier.isFinal(field.getModifiers())).count());
        Check.due("public and final", Modifier.PUBLIC | Modifier.FINAL, Preformtower.class.getModifiers());
        Constructor<?>[] constructors = Preformtower.class.getDeclaredConstructors();
        Check.due("constructors", 1, constructors.length);
        Check.due("a public one", Modifier.PUBLIC, constructors[0].getModifiers());
        Check.due("without numbers", 0, constructors[0].getParameterCount());
        Check.end();
    }

    private static String face(String name, int numbers, String... exceptions) {
        String[] all = new String[numbers];
        Arrays.fill(all, "int");
        return name + "(" + String.join(", ", all) + ") throws " + String.join(", ", exceptions);
    }

    private static String face(Method method) {
        return method.getReturnType().getName() + " " + method.getName() + "("
            + Arrays.stream(method.getParameterTypes()).map(Class::getName).collect(Collectors.joining(", ")) + ") throws "
            + Arrays.stream(method.getExceptionTypes()).map(Class::getSimpleName).collect(Collectors.joining(", "));
    }
}
