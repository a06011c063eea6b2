import java.lang.reflect.Method;
import java.lang.reflect.Modifier;
import java.nio.file.Files;
import java.nio.file.Path;
import java.util.ArrayList;
import java.util.List;
import java.util.Set;
import java.util.TreeSet;
import java.util.regex.Matcher;
import java.util.regex.Pattern;
import java.util.stream.Stream;

/** What README.md shows is as the class answers; it shows every call, and names every test and the command for them. */
public final class FrogsChangeSidesReadme {
    private static final Path PAGE = Path.of("README.md");
    private static final Path COMMAND = Path.of(".ci/run");
    private static final Path TESTS = Path.of("src/test/java");
    private static final String NEW_OBJECT = "FrogsChangeSides x = new FrogsChangeSides();";
    private static final Pattern CALL = Pattern.compile("x\\.(\\w+)\\((.*?)\\); +// (-?\\w+): .+");
    private static final int MOST_CALLS = 512;
    private static int wrong = 0;

    public static void main(String[] args) throws Exception {
        List<String> page = Files.readAllLines(PAGE);
        Set<String> shown = callAll(codeOf(page));
        everyCallIsShown(shown);
        testsAreNamed(page);
        System.out.println(wrong == 0 ? "README.md is as the class answers" : wrong + " faults in README.md");
        if (wrong != 0) {
            System.exit(1);
        }
    }

    private static void fault(String what) {
        wrong++;
        System.out.println("README.md: " + what);
    }

    private static List<String> codeOf(List<String> page) {
        List<String> code = new ArrayList<>();
        boolean inside = false;
        for (String line : page) {
            if (line.startsWith("```")) {
                inside = line.equals("```java");
            } else if (inside && !line.isBlank()) {
                code.add(line);
            }
        }
        return code;
    }

    private static Set<String> callAll(List<String> code) throws Exception {
        Set<String> shown = new TreeSet<>();
        FrogsChangeSides x = null;
        int calls = 0;
        for (String line : code) {
            if (line.equals(NEW_OBJECT)) {
                x = new FrogsChangeSides();
                calls = 0;
                continue;
            }
            Matcher call = CALL.matcher(line);
            if (x == null || !call.matches() || ++calls > MOST_CALLS) {
                fault("no call with its answer: " + line);
                continue;
            }
            shown.add(call.group(1));
            long got = answer(x, call.group(1), call.group(2));
            if (got != numberOf(call.group(3))) {
                fault(line + " -- it answers " + got);
            }
        }
        return shown;
    }

    private static long numberOf(String told) throws Exception {
        return told.matches("-?\\d+") ? Long.parseLong(told) : FrogsChangeSides.class.getField(told).getInt(null);
    }

    private static long answer(FrogsChangeSides x, String name, String told) throws Exception {
        String[] words = told.isEmpty() ? new String[0] : told.split(", ");
        for (Method m : FrogsChangeSides.class.getDeclaredMethods()) {
            if (m.getName().equals(name) && m.getParameterCount() == words.length) {
                Object[] given = new Object[words.length];
                for (int i = 0; i < words.length; i++) {
                    given[i] = m.getParameterTypes()[i] == long.class
                        ? (Object) Long.decode(words[i].replace("L", "")) : (Object) Integer.decode(words[i]);
                }
                return ((Number) m.invoke(x, given)).longValue();
            }
        }
        throw new IllegalArgumentException("README.md shows a call that is none: " + name + "(" + told + ")");
    }

    private static void everyCallIsShown(Set<String> shown) {
        for (Method m : FrogsChangeSides.class.getDeclaredMethods()) {
            if (Modifier.isPublic(m.getModifiers()) && !shown.contains(m.getName())) {
                fault("does not show " + m.getName() + "()");
            }
        }
    }

    private static void testsAreNamed(List<String> page) throws Exception {
        if (!page.contains("    " + COMMAND) || !Files.isExecutable(COMMAND)) {
            fault("names no command that runs the tests");
        }
        String text = String.join("\n", page);
        try (Stream<Path> tests = Files.list(TESTS)) {
            for (Path test : tests.toList()) {
                String name = test.getFileName().toString().replace(".java", "");
                if (!text.contains("`" + name + "`")) {
                    fault("does not name the test " + name);
                }
            }
        }
        Matcher named = Pattern.compile("`(FrogsChangeSides\\w+)`").matcher(text);
        while (named.find()) {
            if (!Files.exists(TESTS.resolve(named.group(1) + ".java"))) {
                fault("names a test that is none: " + named.group(1));
            }
        }
    }
}
