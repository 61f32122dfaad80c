import java.io.File;
import java.io.IOException;
import java.io.UncheckedIOException;
import java.nio.file.Files;
import java.nio.file.Path;
import java.util.ArrayList;
import java.util.List;
import java.util.Set;
import java.util.TreeSet;
import java.util.concurrent.TimeUnit;
import java.util.regex.Matcher;
import java.util.regex.Pattern;
import java.util.stream.Collectors;
import java.util.stream.Stream;

/** What README.md shows compiles against the class, runs and prints what it says; it names every call and every test. */
public final class ReadmeTest {
    private static final Path TESTS = Path.of("src/test/java");

    public static void main(String[] args) throws Exception {
        String text = Files.readString(Path.of("README.md"));
        Path room = Files.createTempDirectory("readme");
        try {
            copy(Path.of("src"), room.resolve("src"));
            theUseThatItShows(text, room);
            theTestsAsItSays(text, room);
        } finally {
            remove(room);
        }
        everyCall(text);
        everyTest(text);
        Check.end();
    }

    private static List<String> blocks(String text, String kind) {
        List<String> all = new ArrayList<>();
        Matcher block = Pattern.compile("(?ms)^```" + kind + "\\n(.*?)^```$").matcher(text);
        while (block.find()) {
            all.add(block.group(1));
        }
        return all;
    }

    private static void theUseThatItShows(String text, Path room) throws Exception {
        List<String> programs = blocks(text, "java");
        List<String> printed = blocks(text, "text");
        Check.due("programs that are shown", 1, programs.size());
        Check.due("prints that are shown", 1, printed.size());
        Files.writeString(room.resolve("Mine.java"), programs.get(0));
        String got = runs(blocks(text, "sh").get(0), room, 0);
        Check.due("the use prints\n" + got + "due is\n" + printed.get(0), 1, got.equals(printed.get(0)) ? 1 : 0);
    }

    private static void theTestsAsItSays(String text, Path room) throws Exception {
        List<String> commands = blocks(text, "sh");
        Check.due("commands: the use, all tests, one test", 3, commands.size());
        Check.due("all tests are run by .ci/run", 1, commands.get(1).equals(".ci/run\n") ? 1 : 0);
        Check.due(".ci/run can be run", 1, new File(".ci/run").canExecute() ? 1 : 0);
        String got = runs(commands.get(2), room, 0);
        Check.due("one test by itself says " + got, 1, got.endsWith(" 0 wrong\n") ? 1 : 0);
        theEndOfCi(room);
    }

    /** .ci/run itself, of a project with one test of its own and one that is shared: it is as they are. */
    private static void theEndOfCi(Path room) throws Exception {
        Path project = room.resolve("main");
        Path tests = project.resolve("src/test/java");
        Path given = room.resolve("shared/tests");
        Files.createDirectories(tests);
        Files.createDirectories(given);
        copy(Path.of("src/main"), project.resolve("src/main"));
        copy(Path.of(".ci"), project.resolve(".ci"));
        for (int wrong = 0; wrong <= 2; wrong++) {
            Files.writeString(tests.resolve("OwnTest.java"), ending("OwnTest", wrong == 1 ? 1 : 0));
            Files.writeString(given.resolve("Given.java"), ending("Given", wrong == 2 ? 1 : 0));
            String got = runs("main/.ci/run\n", room, wrong == 0 ? 0 : 1);
            tells(got, "OwnTest", wrong != 1);
            tells(got, "Given", wrong != 2);
        }
        Files.delete(given.resolve("Given.java"));
        runs("main/.ci/run\n", room, 1);
    }

    private static void tells(String got, String name, boolean ok) {
        String due = (ok ? "ok      " : "FAILED  ") + name + "\n";
        Check.due(".ci/run says " + got + ", due is " + due, 1, got.contains(due) ? 1 : 0);
    }

    private static String ending(String name, int code) {
        return "public final class " + name + " { public static void main(String[] args) { "
            + "new Preformtower().preform(); System.exit(" + code + "); } }";
    }

    private static String runs(String commands, Path room, int due) throws Exception {
        Process process = new ProcessBuilder("sh", "-e", "-c", commands)
            .directory(room.toFile()).redirectErrorStream(true).start();
        String got = new String(process.getInputStream().readAllBytes());
        boolean ended = process.waitFor(10, TimeUnit.MINUTES);
        Check.due(commands + "ended: " + got, 1, ended ? 1 : 0);
        Check.due(commands + "ended with: " + got, due, process.exitValue());
        return got;
    }

    private static void everyCall(String text) {
        Set<String> due = new TreeSet<>();
        for (var method : Preformtower.class.getDeclaredMethods()) {
            if (java.lang.reflect.Modifier.isPublic(method.getModifiers())) {
                due.add(method.getName() + " of " + method.getParameterCount());
            }
        }
        Set<String> got = new TreeSet<>();
        Matcher row = Pattern.compile("(?m)^\\| `(\\w+)\\((.*?)\\)` \\|").matcher(text);
        while (row.find()) {
            got.add(row.group(1) + " of " + (row.group(2).isEmpty() ? 0 : row.group(2).split(", ").length));
        }
        Check.due("its calls are " + got + ", due is " + due, 1, due.equals(got) ? 1 : 0);
    }

    private static void everyTest(String text) throws IOException {
        Set<String> named = new TreeSet<>();
        Matcher name = Pattern.compile("`(\\w+Test)`").matcher(text);
        while (name.find()) {
            named.add(name.group(1));
        }
        try (Stream<Path> files = Files.list(TESTS)) {
            Set<String> due = files.map(file -> file.getFileName().toString()).filter(file -> file.endsWith("Test.java"))
                .map(file -> file.substring(0, file.length() - ".java".length())).collect(Collectors.toCollection(TreeSet::new));
            Check.due("its tests are " + named + ", due is " + due, 1, due.equals(named) ? 1 : 0);
        }
    }

    private static void copy(Path from, Path to) throws IOException {
        try (Stream<Path> all = Files.walk(from)) {
            all.forEach(one -> {
                try {
                    Path target = to.resolve(from.relativize(one));
                    Files.createDirectories(target.getParent());
                    Files.copy(one, target, java.nio.file.StandardCopyOption.COPY_ATTRIBUTES);
                } catch (IOException e) {
                    throw new UncheckedIOException(e);
                }
            });
        }
    }

    private static void remove(Path room) throws IOException {
        try (Stream<Path> all = Files.walk(room)) {
            all.sorted((a, b) -> b.compareTo(a)).forEach(one -> one.toFile().delete());
        }
    }
}
