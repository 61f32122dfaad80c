import java.io.IOException;
import java.lang.reflect.Constructor;
import java.lang.reflect.Method;
import java.lang.reflect.Modifier;
import java.nio.file.Files;
import java.nio.file.Path;
import java.util.ArrayList;
import java.util.Arrays;
import java.util.List;
import java.util.Set;
import java.util.TreeSet;
import java.util.regex.MatchResult;
import java.util.regex.Pattern;
import java.util.stream.Collectors;

/** The public face, as the document lists it, and nothing else outside of the class. */
public final class FaceTest {
    private static final String I = "IndexOutOfBoundsException";
    private static final String A = "IllegalArgumentException";
    private static final String S = "IllegalStateException";

    public static void main(String[] args) throws IOException {
        String program = Files.readString(Path.of("src/main/java/Preformtower.java"));
        String document = Files.readString(Path.of("../shared/DOC.md"));
        asTheDocumentWritesIt(program, document);
        underItsHeads(program, document);
        asTheMachineSeesIt();
        Check.end();
    }

    /** With the names of the parameters, and in the document's order. */
    private static void asTheDocumentWritesIt(String program, String document) {
        Pattern header = Pattern.compile("public (?!static|final class)[^;{=]*");
        int begin = document.indexOf("```java");
        String block = document.substring(begin, document.indexOf("```", begin + 3));
        List<String> due = found(header, block);
        Check.due("what the document lists: a constructor and 24 calls", 25, due.size());
        same("the face", due, found(header, program));
    }

    private static List<String> found(Pattern pattern, String text) {
        return pattern.matcher(text).results().map(MatchResult::group)
            .map(one -> one.trim().replaceAll("\\s+", " ")).collect(Collectors.toList());
    }

    /** "Ahead of the calls .. the interface says: ---- glass", and so on. */
    private static void underItsHeads(String program, String document) {
        List<String> due = new ArrayList<>();
        for (String line : found(Pattern.compile("(?m)^Ahead of the calls .*$"), document)) {
            due.add(line.replaceAll("^.* the interface says: (.*)\\.$", "$1"));
            found(Pattern.compile("`\\w+`"), line).forEach(name -> due.add(name.replace("`", "")));
        }
        Check.due("what the document says of 4 heads and 24 calls", 28, due.size());
        List<String> got = found(Pattern.compile("// ---- [^\\n]*|public \\w+ \\w+(?=\\()"), program).stream()
            .map(one -> one.replaceAll("^// |^public \\w+ ", "")).collect(Collectors.toList());
        got.remove("---- what the calls share");
        same("the calls under their heads", due, got);
    }

    private static void same(String what, List<String> due, List<String> got) {
        Check.due(what + " is " + got + ", due is " + due, 1, due.equals(got) ? 1 : 0);
    }

    private static void asTheMachineSeesIt() {
        Set<String> due = new TreeSet<>(Set.of(
            face("int preform", 0, S), face("int soot", 3, I, A, S), face("int draw", 2, I, A, S),
            face("int flaw", 3, I, A, S), face("int proof", 2, I, A, S), face("int cable", 3, A, S),
            face("int lay", 3, I, A, S), face("int splice", 6, I, A, S), face("int part", 3, I, S),
            face("int dig", 2, I, A, S), face("int bend", 3, I, A, S), face("int mend", 1, I),
            face("int ofPreform", 2, I, A), face("int ofReel", 2, I, A), face("int ofCable", 2, I, A),
            face("int way", 4, I, A), face("int pulse", 5, I, A), face("double decibels", 3, I),
            face("int many", 1, A), face("int bestReel", 1, I), face("int pieces", 1, A), face("int single", 1, I),
            face("int locate", 3, I), face("long digest", 0)));
        Set<String> got = new TreeSet<>();
        Set<String> hidden = new TreeSet<>();
        for (Method method : Preformtower.class.getDeclaredMethods()) {
            if (Modifier.isPrivate(method.getModifiers())) {
                hidden.add(method.getName());
            } else {
                got.add(face(method));
            }
        }
        if (!due.equals(got)) {
            Check.wrong("the face is " + got + ", due is " + due);
        }
        hidden.removeIf(name -> due.stream().noneMatch(line -> line.contains(" " + name + "(")));
        Check.due("private methods that bear a public name: " + hidden, 0, hidden.size());
        Check.due("fields that are not private", 0, Arrays.stream(Preformtower.class.getDeclaredFields())
            .filter(field -> !Modifier.isPrivate(field.getModifiers())).count());
        Check.due("static fields that are not final", 0, Arrays.stream(Preformtower.class.getDeclaredFields())
            .filter(field -> Modifier.isStatic(field.getModifiers()) && !Modifier.isFinal(field.getModifiers())).count());
        Check.due("public and final", Modifier.PUBLIC | Modifier.FINAL, Preformtower.class.getModifiers());
        Constructor<?>[] constructors = Preformtower.class.getDeclaredConstructors();
        Check.due("constructors", 1, constructors.length);
        Check.due("a public one", Modifier.PUBLIC, constructors[0].getModifiers());
        Check.due("without numbers", 0, constructors[0].getParameterCount());
    }

    private static String face(String name, int numbers, String... exceptions) {
        String[] all = new String[numbers];
        Arrays.fill(all, "int");
        return name + "(" + String.join(", ", all) + ") throws " + String.join(", ", exceptions);
    }

    private static String face(Method method) {
        return method.getReturnType().getName() + " " + method.getName() + "("
            + Arrays.stream(method.getParameterTypes()).map(Class::getName).collect(Collectors.joining(", ")) + ") throws "
            + Arrays.stream(method.getExceptionTypes()).map(Class::getSimpleName).collect(Collectors.joining(", "));
    }
}
