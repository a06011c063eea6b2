import java.io.DataInputStream;
import java.io.IOException;
import java.lang.reflect.Field;
import java.lang.reflect.Method;
import java.lang.reflect.Modifier;
import java.nio.file.Files;
import java.nio.file.Path;
import java.util.ArrayList;
import java.util.HashMap;
import java.util.List;
import java.util.Map;
import java.util.Set;
import java.util.TreeMap;
import java.util.TreeSet;
import java.util.regex.Matcher;
import java.util.regex.Pattern;

/** The rules of LANGUAGE.md that can be read off the source and the class files; each fault is told with its rule. */
public final class FrogsChangeSidesLanguage {
    private static final Path SOURCE = Path.of("src/main/java/FrogsChangeSides.java");
    private static final Pattern METHOD = Pattern.compile(
        "(    |        )(?=\\S)(?!return|if|for|while|switch|else)[\\w\\[\\] ]+ (\\w+)\\((.*)\\) \\{");
    private static final Pattern LIBRARY = Pattern.compile("java/lang/Object\\.<init>|java/lang/System\\.arraycopy"
        + "|java/util/Arrays\\.(copyOf|copyOfRange|fill)|java/lang/(Integer|Long|Math)\\.(?!\\w*Exact)[a-z]\\w*");
    private static final Pattern LOOP_WITHOUT_END = Pattern.compile("while \\(true\\)|for \\([^;]*; *;");
    private static final Set<Class<?>> CONSTANTS = Set.of(int.class, long.class, boolean.class, char.class, String.class,
        int[].class, long[].class, char[].class, byte[].class);
    private static final Set<Class<?>> NUMBERS = Set.of(int.class, long.class, short.class, byte.class, char.class,
        boolean.class, int[].class, long[].class, byte[].class, char[].class, boolean[].class, int[][].class);
    private static final int MOST_LINES = 60, MOST_FIELDS = 20, MOST_CLASSES = 12, MOST_DEEP = 8, MOST_TAKEN = 7;
    private static final Map<String, String> BODIES = new TreeMap<>();
    private static final Map<String, String> TAKEN = new HashMap<>();
    private static final Map<String, Set<String>> CALLED = new TreeMap<>();
    private static final Set<String> RECURSIVE = new TreeSet<>();
    private static int wrong = 0;

    public static void main(String[] args) throws Exception {
        String text = Files.readString(SOURCE);
        wordsThatAreNot(text);
        readMethods(List.of(text.split("\n")));
        callsAndRecursion();
        List<Class<?>> classes = classes();
        hold(classes.size() <= MOST_CLASSES, "rule 11: " + classes.size() + " classes");
        for (Class<?> c : classes) {
            fieldsOf(c);
            methodsOf(c);
            libraryOf(c);
        }
        System.out.println(wrong == 0 ? "the rules of the language are kept" : wrong + " faults");
        if (wrong != 0) {
            System.exit(1);
        }
    }

    private static void hold(boolean holds, String what) {
        if (!holds) {
            wrong++;
            System.out.println("does not hold: " + what);
        }
    }

    private static List<Class<?>> classes() {
        List<Class<?>> all = new ArrayList<>(List.of(FrogsChangeSides.class.getDeclaredClasses()));
        all.add(FrogsChangeSides.class);
        return all;
    }

    private static void wordsThatAreNot(String text) {
        String[] never = {"try", "catch", "finally", "->", "::", "synchronized", "assert", "package", "Random", "System",
            "Thread", "double", "float", "Exact", "static {", "protected", "instanceof", "throw", "native", "volatile"};
        for (String word : never) {
            hold(!text.contains(word), "the source is without " + word);
        }
        hold(!text.replace("import java.util.Arrays;", "").contains("import"), "rule 4: no import but Arrays");
        hold(!LOOP_WITHOUT_END.matcher(text).find(), "rule 9: a loop without an end");
        for (int i = 0; i < text.length(); i++) {
            hold(text.charAt(i) < 128, "rule 3: a sign of the source at " + i);
        }
    }

    private static void readMethods(List<String> lines) {
        for (int i = 0; i < lines.size(); i++) {
            Matcher head = METHOD.matcher(lines.get(i));
            if (!head.matches()) {
                continue;
            }
            int last = i + 1;
            StringBuilder body = new StringBuilder();
            while (!lines.get(last).equals(head.group(1) + "}")) {
                body.append(lines.get(last)).append('\n');
                last++;
            }
            String name = head.group(2);
            hold(last - i + 1 <= MOST_LINES, "rule 11: " + name + " has " + (last - i + 1) + " lines");
            hold(BODIES.put(name, body.toString()) == null, "two methods are named " + name + ", so their calls can't be told apart");
            TAKEN.put(name, head.group(3));
        }
    }

    private static void callsAndRecursion() {
        for (String name : BODIES.keySet()) {
            Set<String> called = new TreeSet<>();
            Matcher call = Pattern.compile("\\b(\\w+)\\(").matcher(BODIES.get(name));
            while (call.find()) {
                if (BODIES.containsKey(call.group(1))) {
                    called.add(call.group(1));
                }
            }
            CALLED.put(name, called);
        }
        int deepest = 0;
        for (String name : BODIES.keySet()) {
            deepest = Math.max(deepest, depthBelow(name, new ArrayList<>()));
        }
        hold(deepest >= 4, "the calls are seen: " + deepest);
        hold(deepest <= MOST_DEEP, "rule 11: calls go " + deepest + " deep");
        for (String name : RECURSIVE) {
            hold(TAKEN.get(name).contains("int depth"), "rule 8: " + name + " carries no depth");
        }
    }

    /** How many calls stand open at once, none of them twice. */
    private static int depthBelow(String name, List<String> open) {
        open.add(name);
        int deepest = open.size();
        for (String next : CALLED.get(name)) {
            int at = open.indexOf(next);
            if (at >= 0) {
                RECURSIVE.addAll(open.subList(at, open.size()));
            } else {
                deepest = Math.max(deepest, depthBelow(next, open));
            }
        }
        open.remove(open.size() - 1);
        return deepest;
    }

    private static void fieldsOf(Class<?> c) {
        int many = 0;
        for (Field f : c.getDeclaredFields()) {
            if (Modifier.isStatic(f.getModifiers())) {
                hold(Modifier.isFinal(f.getModifiers()) && CONSTANTS.contains(f.getType()), "rule 5: " + f);
            } else {
                many++;
                hold(NUMBERS.contains(f.getType()) || classes().contains(f.getType()), "rule 3: " + f);
            }
        }
        hold(many <= MOST_FIELDS, "rule 11: " + c + " has " + many + " fields");
    }

    private static void methodsOf(Class<?> c) {
        for (Method m : c.getDeclaredMethods()) {
            hold(m.getParameterCount() <= MOST_TAKEN, "rule 11: " + m);
            hold(BODIES.containsKey(m.getName()), "the source's method is read: " + m);
        }
        hold(c.getDeclaredClasses().length == 0 || c == FrogsChangeSides.class, "classes inside " + c);
    }

    /** What a class file calls stands in its pool of constants. */
    private static void libraryOf(Class<?> c) throws IOException {
        for (String called : callsInPool(c.getName() + ".class")) {
            hold(called.startsWith("FrogsChangeSides") || LIBRARY.matcher(called).matches(), "rule 4: " + called);
        }
    }

    private static Set<String> callsInPool(String file) throws IOException {
        try (DataInputStream in = new DataInputStream(FrogsChangeSides.class.getResourceAsStream(file))) {
            in.readLong();
            int many = in.readUnsignedShort();
            Object[] pool = new Object[many];
            for (int i = 1; i < many; i++) {
                int sort = in.readUnsignedByte();
                pool[i] = constant(in, sort);
                if (sort == 5 || sort == 6) {
                    i++;
                }
            }
            Set<String> calls = new TreeSet<>();
            for (Object each : pool) {
                if (each instanceof int[] pair && pair[0] >= 10 && pair[0] <= 11) {
                    calls.add(pool[((int[]) pool[pair[1]])[1]] + "." + pool[((int[]) pool[pair[2]])[1]]);
                }
            }
            return calls;
        }
    }

    /** A text, or the sort of a constant with the one or two places of the pool that it names. */
    private static Object constant(DataInputStream in, int sort) throws IOException {
        switch (sort) {
            case 1:
                return in.readUTF();
            case 5:
            case 6:
                return in.readLong();
            case 7:
            case 8:
            case 16:
            case 19:
            case 20:
                return new int[] {sort, in.readUnsignedShort()};
            case 15:
                return new int[] {sort, in.readUnsignedByte(), in.readUnsignedShort()};
            default:
                return new int[] {sort, in.readUnsignedShort(), in.readUnsignedShort()};
        }
    }
}
