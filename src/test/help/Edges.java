import java.util.ArrayList;
import java.util.HashMap;
import java.util.List;
import java.util.Map;

/**
 * What the tests of the edges share. Each check stands under a sentence of the document; a refused call is made on one
 * of two objects that were led to the same state, and both must answer alike from then on.
 */
final class Edges {
    static final int NONE = -1, UNKNOWN = -101, OUTSIDE = -102, STATE = -103, FULL = -104;
    static final int LOW = Integer.MIN_VALUE, HIGH = Integer.MAX_VALUE;

    /** Two moves kept, an image of the first, letters on the page. */
    static final String RICH = "=>>.<< 12 ! 31 +>.<.x";
    /** No move more is kept, though some may be made. */
    static final String SIXTY = "=>..;b " + "01 10 ".repeat(30) + "! +>.";
    /** Nothing may be moved, and it is not the goal. */
    static final String STUCK = "=g.< ! 21 +>.<";
    /** The longest row, round its end, with an image of one move less. */
    static final String ROUND = "=<.....>;r 61 ! 06 +<.....>";

    private static String sentence = "";
    private static int sentences = 0;
    private static int checksOfSentence = 0;
    private static int wrong = 0;
    private static final int WAYS_TO_LOOK = 9;
    private static final Map<String, List<List<String>>> TWINS = new HashMap<>();

    private Edges() {
    }

    interface Call {
        long on(FrogsChangeSides x);
    }

    /** The words of the document that the checks from here on hold it to; 0 stands for its terms. */
    static void sentence(int promise, String words) {
        closeSentence();
        sentence = (promise == 0 ? "terms: " : "promise " + promise + ": ") + words;
        sentences++;
        checksOfSentence = 0;
    }

    private static void closeSentence() {
        if (sentences > 0 && checksOfSentence == 0) {
            wrong++;
            System.out.println(sentence + ": nothing is checked");
        }
    }

    static void end() {
        closeSentence();
        System.out.println(wrong == 0 ? sentences + " sentences hold" : wrong + " answers are not as due");
        if (wrong != 0) {
            System.exit(1);
        }
    }

    static void due(String what, long got, long want) {
        checksOfSentence++;
        if (got != want) {
            wrong++;
            System.out.println(sentence + ": " + what + " answered " + got + ", due is " + want);
        }
    }

    static long word(String text) {
        long w = 0;
        for (int i = text.length() - 1; i >= 0; i--) {
            w = w << 8 | text.charAt(i);
        }
        return w;
    }

    static void write(FrogsChangeSides x, String text) {
        int before = x.count(8);
        for (int at = 0; at < text.length(); at += 8) {
            x.letters(word(text.substring(at, Math.min(text.length(), at + 8))));
        }
        due("letters once " + text + " is written", x.count(8), before + text.length());
    }

    static String rowOf(String brook) {
        int semi = brook.indexOf(';');
        return semi < 0 ? brook : brook.substring(0, semi);
    }

    /** A new object led by steps: "=text" reads a brook, "+text" writes, "!" keeps an image, "~" takes back, "01" moves. */
    static FrogsChangeSides led(String steps) {
        FrogsChangeSides x = new FrogsChangeSides();
        for (String step : steps.split(" ")) {
            if (!step.isEmpty()) {
                lead(x, step);
            }
        }
        return x;
    }

    private static void lead(FrogsChangeSides x, String step) {
        char sort = step.charAt(0);
        if (sort == '=') {
            write(x, step.substring(1));
            due("brook " + step, x.brook(), rowOf(step.substring(1)).length());
        } else if (sort == '+') {
            write(x, step.substring(1));
        } else if (sort == '!') {
            due("image", x.image(), x.count(2));
        } else if (sort == '~') {
            int before = x.count(2);
            x.back();
            due("kept behind back()", x.count(2), before - 1);
        } else {
            int before = x.count(2);
            due("move " + step, x.move(sort - '0', step.charAt(1) - '0'), before + 1);
        }
    }

    /** The call must be refused, and nothing that is told later may differ from what one tells that was not asked. */
    static void refused(String steps, String what, long want, Call call) {
        due(what + " behind [" + steps + "]", call.on(led(steps)), want);
        unchanged(steps, what, call);
    }

    /** The call answers, but it is no more than a question: likewise. */
    static void asked(String steps, String what, long want, Call call) {
        refused(steps, what, want, call);
    }

    static void unchanged(String steps, String what, Call call) {
        if (!TWINS.containsKey(steps)) {
            TWINS.put(steps, tellings(steps, x -> 0));
        }
        List<List<String>> twin = TWINS.get(steps);
        List<List<String>> got = tellings(steps, call);
        for (int i = 0; i < twin.size(); i++) {
            same(what + " behind [" + steps + "]", got.get(i), twin.get(i));
        }
    }

    /** Each way to look begins on an object of its own, as what is asked first could hide what is changed later. */
    private static List<List<String>> tellings(String steps, Call call) {
        List<List<String>> all = new ArrayList<>();
        for (int way = 0; way < WAYS_TO_LOOK; way++) {
            FrogsChangeSides x = led(steps);
            call.on(x);
            all.add(told(x, way));
        }
        return all;
    }

    static void alike(String what, FrogsChangeSides asked, FrogsChangeSides twin) {
        same(what, told(asked, 0), told(twin, 0));
    }

    private static void same(String what, List<String> got, List<String> want) {
        for (int i = 0; i < want.size() && i < got.size(); i++) {
            if (!got.get(i).equals(want.get(i))) {
                due("what is changed by " + what + ": " + got.get(i) + " for " + want.get(i), 1, 0);
                return;
            }
        }
        due("how much is told behind " + what, got.size(), want.size());
    }

    private static List<String> told(FrogsChangeSides x, int way) {
        List<String> all = new ArrayList<>();
        switch (way) {
            case 0:
                tellAll(x, all);
                break;
            case 1:
                tellImage(x, all);
                break;
            case 2:
                tellWayBack(x, all);
                break;
            case 3:
                all.add("play(1, 0, 1) " + x.play(1, 0, 1));
                all.add("play(60, 1, 1) " + x.play(60, 1, 1));
                break;
            case 4:
                all.add("off(0) " + x.off(0));
                all.add("off(1) " + x.off(1));
                all.add("more(1) " + x.more(1));
                break;
            case 5:
                tellPage(x, all);
                break;
            case 6:
                tellQuestions(x, all);
                break;
            case 7:
                tellFrogs(x, all);
                break;
            default:
                all.add("digest " + x.digest());
                break;
        }
        return all;
    }

    /** All that an object tells, then what it tells while it is led back, to its image, and to the brook on its page. */
    private static void tellAll(FrogsChangeSides x, List<String> all) {
        tellRow(x, all);
        tellQuestions(x, all);
        tellWayBack(x, all);
        tellImage(x, all);
        tellPage(x, all);
    }

    private static void tellImage(FrogsChangeSides x, List<String> all) {
        all.add("restore " + x.restore());
        all.add("digest behind restore " + x.digest());
        tellWayBack(x, all);
    }

    private static void tellPage(FrogsChangeSides x, List<String> all) {
        all.add("brook " + x.brook());
        all.add("digest behind brook " + x.digest());
        all.add("restore behind brook " + x.restore());
    }

    private static void tellRow(FrogsChangeSides x, List<String> all) {
        for (int i = 0; i < 10; i++) {
            all.add("count(" + i + ") " + x.count(i));
        }
        int stones = x.count(0);
        for (int from = 0; from < stones; from++) {
            all.add("on(" + from + ") " + x.on(from));
            all.add("frog(" + from + ") " + x.frog(from));
            for (int to = 0; to < stones; to++) {
                all.add("may(" + from + ", " + to + ") " + x.may(from, to));
            }
        }
        tellFrogs(x, all);
    }

    private static void tellFrogs(FrogsChangeSides x, List<String> all) {
        for (int frog = 0; frog < 7; frog++) {
            for (int what = 0; what < 3; what++) {
                all.add("about(" + frog + ", " + what + ") " + x.about(frog, what));
            }
        }
    }

    private static void tellQuestions(FrogsChangeSides x, List<String> all) {
        for (int what = 0; what < 3; what++) {
            all.add("fewest(" + what + ") " + x.fewest(what));
            all.add("play(60, 1, " + what + ") " + x.play(60, 1, what));
        }
        for (int what = 0; what < 2; what++) {
            all.add("more(" + what + ") " + x.more(what));
            all.add("off(" + what + ") " + x.off(what));
            all.add("wins(" + what + ") " + x.wins(what));
            all.add("by(0, " + what + ") " + x.by(0, what));
            all.add("by(1, " + what + ") " + x.by(1, what));
        }
        all.add("ways " + x.ways());
        all.add("wrong " + x.wrong());
        all.add("ends " + x.ends());
        all.add("soon " + x.soon());
        all.add("moves " + x.moves());
        all.add("comes " + x.comes());
        all.add("fault " + x.fault());
        all.add("digest " + x.digest());
    }

    private static void tellWayBack(FrogsChangeSides x, List<String> all) {
        int from = 0;
        for (int many = 0; many <= 60 && from >= 0; many++) {
            from = x.back();
            all.add("back " + from);
        }
        all.add("digest behind back " + x.digest());
    }

    static void row(FrogsChangeSides x, String want) {
        due("stones of " + want, x.count(0), want.length());
        for (int i = 0; i < want.length(); i++) {
            int kind = ".><og".indexOf(want.charAt(i));
            due("on(" + i + ") of " + want, x.on(i), kind == 0 ? NONE : kind);
        }
    }

    /** These moves, told as "01 21", and no other. */
    static void only(String brook, String pairs) {
        FrogsChangeSides x = led("=" + brook);
        int stones = x.count(0);
        int many = 0;
        for (int from = 0; from < stones; from++) {
            for (int to = 0; to < stones; to++) {
                int want = (" " + pairs + " ").contains(" " + from + to + " ") ? 1 : 0;
                many += want;
                due("may(" + from + ", " + to + ") of " + brook, x.may(from, to), want);
            }
        }
        due("moves of " + brook, x.moves(), many);
    }
}
