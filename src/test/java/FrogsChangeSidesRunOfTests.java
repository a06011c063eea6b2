import java.io.IOException;
import java.nio.file.Files;
import java.nio.file.Path;
import java.util.ArrayList;
import java.util.Comparator;
import java.util.List;
import java.util.stream.Stream;

/**
 * Whether .ci/run runs every test of the project and every shared one, and refuses if one of them fails: a copy of it
 * is run beside small projects whose class has nothing in it and whose tests are one line each.
 */
public final class FrogsChangeSidesRunOfTests {
    private static final Path COMMAND = Path.of(".ci/run");
    private static final String PASSES = "System.out.println(\"ran:\" + %s.class.getName());";
    private static final String FAILS = PASSES + " System.exit(1);";
    private static final String THROWS = PASSES + " throw new IllegalStateException();";
    private static final String NO_JAVA = PASSES + " this is none;";
    private static int wrong = 0;

    /** A run that goes on while the next one is started. */
    private record Started(String what, boolean passes, List<String> tests, Process process, Path output) {
    }

    public static void main(String[] args) throws Exception {
        Path room = Files.createTempDirectory("run-of-tests");
        try {
            for (Started run : startAll(room)) {
                look(run);
            }
        } finally {
            remove(room);
        }
        System.out.println(wrong == 0 ? ".ci/run runs all tests" : wrong + " faults of .ci/run");
        if (wrong != 0) {
            System.exit(1);
        }
    }

    private static List<Started> startAll(Path room) throws IOException {
        List<Started> all = new ArrayList<>();
        all.add(start(room, "all pass", true, "Own " + PASSES, "Second " + PASSES, "shared Third " + PASSES));
        all.add(start(room, "the first fails", false, "Own " + FAILS, "Second " + PASSES, "shared Third " + PASSES));
        all.add(start(room, "the last one here fails", false, "Own " + PASSES, "Second " + FAILS, "shared Third " + PASSES));
        all.add(start(room, "a shared one fails", false, "Own " + PASSES, "shared Second " + FAILS, "shared Third " + PASSES));
        all.add(start(room, "one throws", false, "Own " + THROWS, "shared Third " + PASSES));
        all.add(start(room, "no shared one", false, "Own " + PASSES));
        all.add(start(room, "none here", false, "shared Third " + PASSES));
        all.add(start(room, "one is no Java", false, "Own " + NO_JAVA, "shared Third " + PASSES));
        all.add(start(room, "a shared one is no Java", false, "Own " + PASSES, "shared Third " + NO_JAVA));
        return all;
    }

    private static Started start(Path room, String what, boolean passes, String... tests) throws IOException {
        Path project = room.resolve(what.replace(' ', '-')).resolve("main");
        write(project.resolve("src/main/java/FrogsChangeSides.java"), "public final class FrogsChangeSides {}");
        Path command = write(project.resolve(".ci/run"), Files.readString(COMMAND));
        command.toFile().setExecutable(true);
        List<String> names = new ArrayList<>();
        for (String test : tests) {
            boolean shared = test.startsWith("shared ");
            String told = shared ? test.substring(7) : test;
            String name = told.substring(0, told.indexOf(' '));
            String body = told.substring(told.indexOf(' ') + 1).replace("%s", name);
            Path folder = project.resolve(shared ? "../shared/tests" : "src/test/java").normalize();
            write(folder.resolve(name + ".java"), "public final class " + name
                + " { public static void main(String[] args) { new FrogsChangeSides(); " + body + " } }");
            if (!told.endsWith("none;")) {
                names.add(name);
            }
        }
        Path output = project.resolve("output");
        Process process = new ProcessBuilder(command.toString()).directory(room.toFile()).redirectErrorStream(true)
            .redirectOutput(output.toFile()).start();
        return new Started(what, passes, names, process, output);
    }

    private static Path write(Path file, String text) throws IOException {
        Files.createDirectories(file.getParent());
        return Files.writeString(file, text);
    }

    private static void look(Started run) throws Exception {
        int exit = run.process().waitFor();
        String output = Files.readString(run.output());
        if ((exit == 0) != run.passes()) {
            fault(run.what() + ": it ended with " + exit, output);
        }
        for (String test : run.tests()) {
            if (!output.contains("ran:" + test)) {
                fault(run.what() + ": " + test + " was not run", output);
            }
        }
    }

    private static void fault(String what, String output) {
        wrong++;
        System.out.println(what + "; it printed:\n" + output);
    }

    private static void remove(Path room) throws IOException {
        try (Stream<Path> all = Files.walk(room)) {
            for (Path each : all.sorted(Comparator.reverseOrder()).toList()) {
                Files.delete(each);
            }
        }
    }
}
