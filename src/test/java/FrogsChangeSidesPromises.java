/** Each promise by itself, with answers worked out by hand: ordinary inputs, edges, wrong inputs. */
public final class FrogsChangeSidesPromises {
    private static final int NONE = -1, UNKNOWN = -101, OUTSIDE = -102, STATE = -103, FULL = -104;
    private static final int LOW = Integer.MIN_VALUE, HIGH = Integer.MAX_VALUE;
    private static int promise = 0;
    private static int wrong = 0;

    public static void main(String[] args) {
        newObject();
        letters();
        blank();
        fault();
        brook();
        onAndFrog();
        about();
        as();
        mayByKind();
        mayBySigns();
        moves();
        move();
        back();
        fewest();
        ways();
        wrongMove();
        endsAndSoon();
        comes();
        more();
        off();
        wins();
        by();
        play();
        imageAndRestore();
        imageAndBrooks();
        count();
        digest();
        System.out.println(wrong == 0 ? "all promises hold" : wrong + " answers are not as due");
        if (wrong != 0) {
            System.exit(1);
        }
    }

    private static void due(String what, long got, long want) {
        if (got != want) {
            wrong++;
            System.out.println("promise " + promise + ": " + what + " answered " + got + ", due is " + want);
        }
    }

    private static long word(String text) {
        long w = 0;
        for (int i = text.length() - 1; i >= 0; i--) {
            w = w << 8 | text.charAt(i);
        }
        return w;
    }

    private static void write(FrogsChangeSides x, String text) {
        for (int at = 0; at < text.length(); at += 8) {
            int end = Math.min(text.length(), at + 8);
            due("letters of " + text, x.letters(word(text.substring(at, end))), x.count(8));
        }
    }

    private static FrogsChangeSides page(String text) {
        FrogsChangeSides x = new FrogsChangeSides();
        write(x, text);
        due("letters of " + text, x.count(8), text.length());
        return x;
    }

    private static FrogsChangeSides of(String text) {
        FrogsChangeSides x = page(text);
        int semi = text.indexOf(';');
        due("brook " + text, x.brook(), semi < 0 ? text.length() : semi);
        return x;
    }

    /** Moves told as "01 20": from 0 to 1, then from 2 to 0. */
    private static void go(FrogsChangeSides x, String moves) {
        for (String m : moves.split(" ")) {
            int before = x.count(2);
            due("move " + m + " of " + moves, x.move(m.charAt(0) - '0', m.charAt(1) - '0'), before + 1);
        }
    }

    private static void row(FrogsChangeSides x, String want) {
        for (int i = 0; i < want.length(); i++) {
            int kind = ".><og".indexOf(want.charAt(i));
            due("on(" + i + ") of " + want, x.on(i), kind == 0 ? NONE : kind);
        }
        due("stones of " + want, x.count(0), want.length());
    }

    private static void newObject() {
        promise = 1;
        FrogsChangeSides x = new FrogsChangeSides();
        for (int what = 0; what <= 9; what++) {
            due("count " + what, x.count(what), 0);
        }
        due("on", x.on(0), UNKNOWN);
        due("frog", x.frog(0), UNKNOWN);
        due("about", x.about(0, 0), UNKNOWN);
        due("as", x.as(0, 0), UNKNOWN);
        due("may", x.may(0, 1), UNKNOWN);
        due("moves", x.moves(), 0);
        due("move", x.move(0, 1), UNKNOWN);
        due("back", x.back(), STATE);
        due("fault", x.fault(), 0);
        due("restore", x.restore(), STATE);
        due("digest", x.digest(), -2871347736213390213L);
    }

    private static void letters() {
        promise = 2;
        FrogsChangeSides x = new FrogsChangeSides();
        due("no letter", x.letters(0), 0);
        due("one", x.letters('>'), 1);
        due("the least and the greatest code", x.letters(126L << 8 | 1), 3);
        due("127", x.letters(127), OUTSIDE);
        due("128", x.letters(128), OUTSIDE);
        due("all bits", x.letters(-1L), OUTSIDE);
        due("the last byte above", x.letters(word(">>>>>>>") | 0x80L << 56), OUTSIDE);
        due("127 last", x.letters(word(">>>>>>>") | 127L << 56), OUTSIDE);
        due("behind a 0", x.letters((long) '>' << 8), OUTSIDE);
        due("behind a 0, last", x.letters('>' | (long) '>' << 56), OUTSIDE);
        due("refusals change nothing", x.count(8), 3);
        due("eight", x.letters(word("abcdefgh")), 11);
        due("15", x.letters(word("abcd")), FULL);
        due("OUTSIDE ahead of FULL", x.letters(word("abcd") | 255L << 32), OUTSIDE);
        due("still", x.count(8), 11);
        due("14", x.letters(word("abc")), 14);
        due("15 by one", x.letters('a'), FULL);
        due("none more", x.letters(0), 14);
        due("the letters in their order", of2("<.", ">"), 1);
    }

    /** 1 if the letters of two words stand one behind the other. */
    private static int of2(String first, String second) {
        FrogsChangeSides x = new FrogsChangeSides();
        x.letters(word(first));
        x.letters(word(second));
        x.brook();
        return x.on(0) == 2 && x.on(1) == NONE && x.on(2) == 1 ? 1 : 0;
    }

    private static void blank() {
        promise = 3;
        FrogsChangeSides x = page(">.<;");
        due("blank", x.blank(), 4);
        due("blank of an empty one", x.blank(), 0);
        due("count", x.count(8), 0);
        write(x, ">.<");
        due("brook behind it", x.brook(), 3);
        write(x, "x");
        due("blank", x.blank(), 1);
        row(x, ">.<");
    }

    private static void fault() {
        promise = 4;
        String[] whole = {"", ">", ">>", "...", ">.<", ">.<;", "...;", "o.g>;a", "o.g>;t", "o.g>;ab", "o.g>;abrt",
            ".......", ">>>>>>>;abrt", ">.<;bt", ">.<;ar", ">.<;rt"};
        for (String text : whole) {
            due("fault of " + text, page(text).fault(), text.length());
        }
        due("a sign first", page("a..").fault(), 0);
        due("too soon a ;", page(">.;a").fault(), 2);
        due("a ; alone", page(";").fault(), 0);
        due("an eighth stone", page("........").fault(), 7);
        due("a capital", page(">.G.").fault(), 2);
        due("a sign without ;", page(">.<a").fault(), 3);
        due("two ;", page(">.<;;").fault(), 4);
        due("a sign twice", page(">.<;aa").fault(), 5);
        due("not in order", page(">.<;ba").fault(), 5);
        due("not in order, later", page(">.<;atr").fault(), 6);
        due("a stone behind ;", page(">.<;.").fault(), 4);
        due("behind the last sign", page(">.<;abrtt").fault(), 8);
        due("behind seven stones", page(".......;x").fault(), 8);
        FrogsChangeSides x = page("x>.<");
        x.fault();
        due("the page stays", x.count(8), 4);
    }

    private static void brook() {
        promise = 5;
        String[] none = {"", ">", ">.", "...", ".......", "...;a", ">.<;", ">.;a", ">......<", ">.<;ba", ">.<;x", "x.<", ">.<x"};
        for (String text : none) {
            FrogsChangeSides x = page(text);
            due("brook of " + text, x.brook(), STATE);
            due("the page stays", x.count(8), text.length());
            due("no brook", x.count(0), 0);
            due("not read", x.count(9), 0);
        }
        String[] some = {"o..", "g..", "..<", ">.<", ">>>>>>>", ">.<;a", ">.<;b", ">.<;r", ">.<;t", ">g.<o.<;abrt", ">..<;br"};
        for (String text : some) {
            FrogsChangeSides x = of(text);
            due("the page is empty", x.count(8), 0);
            row(x, text.replaceAll(";.*", ""));
            for (int i = 0; i < 4; i++) {
                due("sign " + i + " of " + text, x.count(4 + i), text.indexOf("abrt".charAt(i)) >= 0 ? 1 : 0);
            }
        }
        FrogsChangeSides x = of(">.<;at");
        go(x, "01");
        write(x, "..;");
        due("refused", x.brook(), STATE);
        row(x, ".><");
        due("moves stay", x.count(2), 1);
        x.blank();
        write(x, "g...");
        due("another one", x.brook(), 4);
        row(x, "g...");
        due("what was moved is gone", x.count(2), 0);
        due("signs are gone", x.count(4) + x.count(7), 0);
        due("nothing to take back", x.back(), STATE);
        due("read", x.count(9), 2);
    }

    private static void onAndFrog() {
        FrogsChangeSides x = of(">g.<o");
        int[] kinds = {1, 4, NONE, 2, 3};
        int[] frogs = {0, 1, NONE, 2, 3};
        for (int s = 0; s < 5; s++) {
            promise = 6;
            due("on(" + s + ")", x.on(s), kinds[s]);
            promise = 7;
            due("frog(" + s + ")", x.frog(s), frogs[s]);
        }
        for (int s : new int[] {-1, 5, 7, LOW, HIGH}) {
            promise = 6;
            due("on(" + s + ")", x.on(s), UNKNOWN);
            promise = 7;
            due("frog(" + s + ")", x.frog(s), UNKNOWN);
        }
        go(x, "12 31");
        row(x, "><g.o");
        promise = 7;
        int[] then = {0, 2, 1, NONE, 3};
        for (int s = 0; s < 5; s++) {
            due("frog(" + s + ") then", x.frog(s), then[s]);
        }
    }

    private static void about() {
        promise = 8;
        FrogsChangeSides x = of(">.<");
        go(x, "01 20");
        int[][] told = {{1, 1, 1}, {2, 0, 1}};
        for (int f = 0; f < 2; f++) {
            for (int what = 0; what < 3; what++) {
                due("about(" + f + ", " + what + ")", x.about(f, what), told[f][what]);
            }
            due("frog there", x.frog(told[f][1]), f);
        }
        go(x, "12");
        due("moved twice", x.about(0, 2), 2);
        x.back();
        due("of what is kept", x.about(0, 2), 1);
        due("what -1", x.about(0, -1), OUTSIDE);
        due("what 3", x.about(0, 3), OUTSIDE);
        due("frog -1", x.about(-1, 0), UNKNOWN);
        due("frog 2", x.about(2, 0), UNKNOWN);
        due("frog HIGH", x.about(HIGH, 0), UNKNOWN);
        due("frog LOW", x.about(LOW, 0), UNKNOWN);
        due("UNKNOWN first", x.about(2, 3), UNKNOWN);
        FrogsChangeSides y = of(">>..;a");
        go(y, "02");
        due("frogs of a kind are told apart", y.frog(2), 0);
        due("by who was moved", y.about(0, 2), 1);
        due("and who was not", y.about(1, 2), 0);
        due("the one leapt over", y.about(1, 1), 1);
    }

    private static void as() {
        promise = 9;
        FrogsChangeSides x = of(".><og");
        int[][] told = {{0, 0, NONE, NONE, NONE}, {1, NONE, 1, NONE, NONE}, {2, NONE, NONE, 2, NONE}, {3, 3, NONE, NONE, 3}};
        for (int f = 0; f < 4; f++) {
            for (int kind = 0; kind < 5; kind++) {
                due("as(" + f + ", " + kind + ")", x.as(f, kind), told[f][kind]);
            }
        }
        due("kind -1", x.as(0, -1), OUTSIDE);
        due("kind 5", x.as(0, 5), OUTSIDE);
        due("frog -1", x.as(-1, 0), UNKNOWN);
        due("frog 4", x.as(4, 0), UNKNOWN);
        due("UNKNOWN first", x.as(4, 5), UNKNOWN);
    }

    /** Who may go where, told as pairs of stones. */
    private static void only(String text, String pairs) {
        FrogsChangeSides x = of(text);
        int stones = x.count(0);
        int many = 0;
        for (int from = 0; from < stones; from++) {
            for (int to = 0; to < stones; to++) {
                int want = (" " + pairs + " ").contains(" " + from + to + " ") ? 1 : 0;
                many += want;
                due("may(" + from + ", " + to + ") of " + text, x.may(from, to), want);
            }
        }
        due("moves of " + text, x.moves(), many);
    }

    private static void mayByKind() {
        promise = 10;
        only(">..", "01");
        only("..<", "21");
        only("<..", "");
        only("..>", "");
        only("g..", "01");
        only("o..", "");
        only(".o.", "");
        only("><.", "02");
        only(".><", "20");
        only("g<.", "");
        only(".g<", "20");
        only(">>.", "12");
        only(".<<", "10");
        only(">g.", "12");
        only(">o.", "");
        only(".o<", "");
        only("><<.", "");
        only(">.<", "01 21");
        only(".<>.", "10 23");
    }

    private static void mayBySigns() {
        only(">>.;a", "02 12");
        only(">o.;a", "02");
        only(".o<;a", "20");
        only(".<<;a", "10 20");
        only("gg.;a", "12");
        only(".>g<;a", "");
        only(">>>.;a", "13 23");
        only(".>.;b", "10 12");
        only(".g.;b", "10 12");
        only(".o.;b", "");
        only(".<>;b", "10 20");
        only("><.;b", "02 12");
        only(".<g;b", "10");
        only("..>;r", "20");
        only("<..;r", "02");
        only(".<>;r", "10 20");
        only("<.>;r", "01 21");
        only("..g;r", "20");
        only("..o;r", "");
        only("><<.;t", "03");
        only(".>><;t", "30");
        only("><><.;t", "24");
        only("><<<.;t", "");
        only(".g><;t", "30");
        only("><o.;t", "");
        only("g<<.;t", "");
        only("><<.", "");
        only("><.<;t", "02 32");
        only(">>o.;at", "03 13");
        only(".<<>;bt", "10 30");
        only(">><;rt", "");
        only(">.<;br", "01 21");
        only(">..;br", "01 02");
        only(".>.;br", "10 12");
        only(">><.;abrt", "03 13 23");
        only("><<>.;rt", "14 34");
        only(".<<>.;rt", "10 34");
        only("<.>>;rt", "01 31");
        promise = 10;
        FrogsChangeSides x = of(">.<");
        for (int s : new int[] {-1, 3, 7, LOW, HIGH}) {
            due("from " + s, x.may(s, 1), UNKNOWN);
            due("to " + s, x.may(0, s), UNKNOWN);
        }
    }

    private static void moves() {
        promise = 11;
        due("two ways to a stone are one", of(">.o;br").moves(), 1);
        due("none", of("<.>").moves(), 0);
        FrogsChangeSides x = of(">.<");
        due("two", x.moves(), 2);
        go(x, "01");
        due("as it is now", x.moves(), 1);
    }

    private static void move() {
        promise = 12;
        FrogsChangeSides x = of(">.<");
        due("nobody there", x.move(1, 0), STATE);
        due("where it is", x.move(0, 0), STATE);
        due("not forth", x.move(0, 2), STATE);
        due("from -1", x.move(-1, 1), UNKNOWN);
        due("to 3", x.move(0, 3), UNKNOWN);
        due("to LOW", x.move(0, LOW), UNKNOWN);
        due("from HIGH", x.move(HIGH, 0), UNKNOWN);
        due("nothing kept", x.count(2), 0);
        row(x, ">.<");
        go(x, "01 20 12");
        row(x, "<.>");
        due("frog 0", x.frog(2), 0);
        due("frog 1", x.frog(0), 1);
        FrogsChangeSides y = of(">..;b");
        for (int i = 0; i < 30; i++) {
            go(y, "01 10");
        }
        due("60 are kept", y.count(2), 60);
        due("FULL", y.move(0, 1), FULL);
        due("UNKNOWN ahead of it", y.move(0, 3), UNKNOWN);
        due("STATE ahead of it", y.move(0, 2), STATE);
        row(y, ">..");
        due("all by one frog", y.about(0, 2), 60);
        due("taken back", y.back(), 1);
        due("one more", y.move(1, 2), 60);
        due("FULL again", y.move(2, 1), FULL);
    }

    private static void back() {
        promise = 13;
        FrogsChangeSides x = of("><.");
        due("none is kept", x.back(), STATE);
        go(x, "02 10");
        due("from where", x.back(), 1);
        row(x, ".<>");
        due("kept", x.count(2), 1);
        due("from where", x.back(), 0);
        row(x, "><.");
        due("frog", x.frog(0), 0);
        due("frog", x.frog(1), 1);
        due("none is kept", x.back(), STATE);
        go(x, "02");
        due("again", x.about(0, 1), 2);
    }

    private static void fewest(String text, int many, int from, int to) {
        FrogsChangeSides x = of(text);
        due("fewest(0) of " + text, x.fewest(0), many);
        due("fewest(1) of " + text, x.fewest(1), from);
        due("fewest(2) of " + text, x.fewest(2), to);
    }

    private static void fewest() {
        promise = 14;
        fewest(">.<", 3, 0, 1);
        fewest(">>.<<", 8, 1, 2);
        fewest(">..", 2, 0, 1);
        fewest("..<", 2, 2, 1);
        fewest("..>", NONE, NONE, NONE);
        fewest("..>;b", 2, 2, 1);
        fewest("..>;r", 1, 2, 0);
        fewest(">..;br", 1, 0, 2);
        fewest(".>.", 0, NONE, NONE);
        fewest("ooo", 0, NONE, NONE);
        fewest("oo.", NONE, NONE, NONE);
        fewest("><.", 1, 0, 2);
        fewest("g<.", NONE, NONE, NONE);
        fewest("g.<", 3, 0, 1);
        fewest(">g.", NONE, NONE, NONE);
        fewest(">.<.", 3, 0, 1);
        fewest(">>.;a", 1, 0, 2);
        fewest(">>.", 2, 1, 2);
        fewest("><<.;t", 1, 0, 3);
        fewest("><<.", NONE, NONE, NONE);
        FrogsChangeSides x = of(">.<");
        go(x, "21");
        due("from now", x.fewest(0), 2);
        due("from now, from", x.fewest(1), 0);
        due("from now, to", x.fewest(2), 2);
        go(x, "02 10");
        due("it is so", x.fewest(0), 0);
        due("from none", x.fewest(1), NONE);
        due("to none", x.fewest(2), NONE);
        due("what -1", x.fewest(-1), OUTSIDE);
        due("what 3", x.fewest(3), OUTSIDE);
        FrogsChangeSides y = new FrogsChangeSides();
        due("no brook", y.fewest(0), STATE);
        due("OUTSIDE first", y.fewest(3), OUTSIDE);
    }

    private static void ways() {
        promise = 15;
        due("no brook", new FrogsChangeSides().ways(), STATE);
        due(">.<", of(">.<").ways(), 2);
        due("g.<", of("g.<").ways(), 1);
        due(">.<.", of(">.<.").ways(), 2);
        due("it is so", of(".>.").ways(), 1);
        due("none", of("..>").ways(), 0);
        due("two frogs with two moves each", of(">..o>..").ways(), 6);
        due("two apart", of(">.o.<").ways(), 0);
        FrogsChangeSides x = of(">.<");
        go(x, "01");
        due("from now", x.ways(), 1);
    }

    private static void wrongMove() {
        promise = 16;
        due("no brook", new FrogsChangeSides().wrong(), STATE);
        FrogsChangeSides x = of(">>.<<");
        due("nothing moved", x.wrong(), NONE);
        go(x, "12");
        due("still right", x.wrong(), NONE);
        go(x, "01");
        due("the second", x.wrong(), 2);
        x.back();
        due("taken back", x.wrong(), NONE);
        FrogsChangeSides y = of(">.<.");
        go(y, "01 20 12");
        due("the second of three", y.wrong(), 2);
        go(y, "23");
        due("of four", y.wrong(), 2);
        FrogsChangeSides z = of("g.<");
        go(z, "21");
        due("the first", z.wrong(), 1);
        FrogsChangeSides never = of("g.>");
        go(never, "01");
        due("it never could", never.wrong(), NONE);
    }

    private static void endsAndSoon(String text, int ends, int soon) {
        FrogsChangeSides x = of(text);
        promise = 17;
        due("ends of " + text, x.ends(), ends);
        promise = 18;
        due("soon of " + text, x.soon(), soon);
    }

    private static void endsAndSoon() {
        endsAndSoon(">.<", 1, 3);
        endsAndSoon("g.<", 2, 1);
        endsAndSoon("oo.", 1, 0);
        endsAndSoon(">>>", 1, 0);
        endsAndSoon(">..;b", 0, NONE);
        endsAndSoon(">..;r", 0, NONE);
        endsAndSoon(">..", 1, 2);
        endsAndSoon(">>..;a", 1, 2);
        FrogsChangeSides x = of("g.<");
        go(x, "01");
        promise = 17;
        due("from now", x.ends(), 1);
        due("no brook", new FrogsChangeSides().ends(), STATE);
        promise = 18;
        due("from now", x.soon(), 2);
        due("no brook", new FrogsChangeSides().soon(), STATE);
    }

    private static void comes(FrogsChangeSides x, String row, int want) {
        x.blank();
        write(x, row);
        due("comes of " + row, x.comes(), want);
        due("the page stays", x.count(8), row.length());
    }

    private static void comes() {
        promise = 19;
        FrogsChangeSides x = of(">.<");
        comes(x, ">.<", 0);
        comes(x, ".><", 1);
        comes(x, "><.", 1);
        comes(x, "<>.", 2);
        comes(x, "<.>", 3);
        comes(x, "...", NONE);
        comes(x, ">.>", NONE);
        comes(x, "g.<", NONE);
        comes(x, "ooo", NONE);
        for (String text : new String[] {"", ">.", ">.<.", ">.<;a", ">.<;", ">.x", "x.<", "..;"}) {
            comes(x, text, STATE);
        }
        go(x, "01");
        comes(x, ".><", 0);
        comes(x, ">.<", NONE);
        comes(x, "<.>", 2);
        comes(x, "><.", NONE);
        due("nothing moved", x.count(2), 1);
        due("no brook", page(">.<").comes(), STATE);
    }

    private static void best(String text, String call, int which, int fewest) {
        FrogsChangeSides x = of(text);
        boolean more = call.equals("more");
        due(call + "(0) of " + text, more ? x.more(0) : x.off(0), which);
        due(call + "(1) of " + text, more ? x.more(1) : x.off(1), fewest);
    }

    private static void more() {
        promise = 20;
        best(">.<", "more", 0, 3);
        best(">><", "more", 3, 3);
        best("o..", "more", NONE, NONE);
        best(".>.", "more", 2, 1);
        best("..>", "more", NONE, NONE);
        best("..>;b", "more", 3, 1);
        best("oo..", "more", NONE, NONE);
        best("oo.", "more", 0, 0);
        best(">>>", "more", 2, 1);
        FrogsChangeSides x = of(">.<");
        go(x, "01");
        due("as it was read", x.more(1), 3);
        row(x, ".><");
        due("fewest is as before", x.fewest(0), 2);
        due("what -1", x.more(-1), OUTSIDE);
        due("what 2", x.more(2), OUTSIDE);
        due("seven stones", of(">>>.<<<").more(0), STATE);
        due("OUTSIDE first", of(">>>.<<<").more(2), OUTSIDE);
        due("six stones", of(">.....").more(1), 4);
        due("no brook", new FrogsChangeSides().more(0), STATE);
    }

    private static void off() {
        promise = 21;
        best(">.<", "off", 0, 2);
        best(">><", "off", 0, 1);
        best("..>", "off", 0, 0);
        best("o..", "off", 0, 0);
        best("oo.", "off", 0, 0);
        best("o.o", "off", NONE, NONE);
        best(".>o", "off", 1, 0);
        FrogsChangeSides x = of(">><");
        due("what -1", x.off(-1), OUTSIDE);
        due("what 2", x.off(2), OUTSIDE);
        FrogsChangeSides y = of(">.<");
        go(y, "21");
        due("as it was read", y.off(1), 2);
        row(y, "><.");
        due("fewest is as before", y.fewest(0), 2);
        due("no brook", new FrogsChangeSides().off(0), STATE);
        due("OUTSIDE first", new FrogsChangeSides().off(2), OUTSIDE);
    }

    private static void wins(String text, int green, int brown) {
        FrogsChangeSides x = of(text);
        due("wins(0) of " + text, x.wins(0), green);
        due("wins(1) of " + text, x.wins(1), brown);
    }

    private static void wins() {
        promise = 22;
        wins(">.<", 1, 1);
        wins(">..<", 0, 0);
        wins("g.<", 1, 1);
        wins(">..", 1, 0);
        wins("..<", 0, 1);
        wins("..>", 0, 0);
        wins("g..;a", 1, 0);
        wins("o..;at", 0, 0);
        wins(">.o>.<", 1, 0);
        FrogsChangeSides x = of(">.<");
        go(x, "01");
        due("from now", x.wins(0), 0);
        due("from now", x.wins(1), 0);
        FrogsChangeSides y = of(">o.");
        due("before another brook", y.wins(0), 0);
        write(y, ">o.;a");
        y.brook();
        due("behind another brook", y.wins(0), 1);
        due("side -1", x.wins(-1), OUTSIDE);
        due("side 2", x.wins(2), OUTSIDE);
        due("BACK", of(">.<;b").wins(0), STATE);
        due("RING", of(">.<;r").wins(0), STATE);
        due("OUTSIDE first", of(">.<;r").wins(2), OUTSIDE);
        due("no brook", new FrogsChangeSides().wins(0), STATE);
    }

    private static void by(String text, int side, int from, int to) {
        FrogsChangeSides x = of(text);
        due("by(" + side + ", 0) of " + text, x.by(side, 0), from);
        due("by(" + side + ", 1) of " + text, x.by(side, 1), to);
    }

    private static void by() {
        promise = 23;
        by(">.<", 0, 0, 1);
        by(">.<", 1, 2, 1);
        by(">..<", 0, NONE, NONE);
        by(">..", 1, NONE, NONE);
        by(">.o>.<", 0, 3, 4);
        by(">.o>.<", 1, NONE, NONE);
        by("g.<", 0, 0, 1);
        FrogsChangeSides x = of(">.<");
        due("side -1", x.by(-1, 0), OUTSIDE);
        due("side 2", x.by(2, 0), OUTSIDE);
        due("what -1", x.by(0, -1), OUTSIDE);
        due("what 2", x.by(0, 2), OUTSIDE);
        due("BACK", of(">.<;b").by(0, 0), STATE);
        due("RING", of(">.<;r").by(0, 0), STATE);
        due("OUTSIDE first", of(">.<;r").by(0, 2), OUTSIDE);
        due("no brook", new FrogsChangeSides().by(0, 0), STATE);
    }

    private static void play(FrogsChangeSides x, int times, int seed, int made, int goal, int then) {
        String call = "play(" + times + ", " + seed + ", ";
        due(call + "0)", x.play(times, seed, 0), made);
        due(call + "1)", x.play(times, seed, 1), goal);
        due(call + "2)", x.play(times, seed, 2), then);
    }

    private static void play() {
        promise = 24;
        FrogsChangeSides x = of(">..");
        play(x, 60, 0, 2, 1, 1406932606);
        play(x, 1, 0, 1, 0, 12345);
        play(x, 1, HIGH, 1, 0, 1043980748);
        play(x, 2, HIGH, 2, 1, 288979989);
        due("as it would be", x.count(2), 0);
        row(x, ">..");
        go(x, "01");
        play(x, 60, 0, 1, 1, 12345);
        play(of("..>"), 60, 7, 0, 0, 7);
        play(of("ooo"), 1, 7, 0, 1, 7);
        FrogsChangeSides y = of("g.<");
        play(y, 60, 0, 3, 1, 654583775);
        play(y, 60, 3, 1, 0, 1163074432);
        play(y, 60, 5, 1, 0, 1222621274);
        due("60 times", of(">..;r").play(60, 1, 0), 60);
        due("times 0", x.play(0, 0, 0), OUTSIDE);
        due("times 61", x.play(61, 0, 0), OUTSIDE);
        due("seed -1", x.play(1, -1, 0), OUTSIDE);
        due("seed LOW", x.play(1, LOW, 0), OUTSIDE);
        due("what -1", x.play(1, 0, -1), OUTSIDE);
        due("what 3", x.play(1, 0, 3), OUTSIDE);
        due("no brook", new FrogsChangeSides().play(1, 0, 0), STATE);
        due("OUTSIDE first", new FrogsChangeSides().play(0, 0, 0), OUTSIDE);
    }

    private static void imageAndRestore() {
        promise = 25;
        FrogsChangeSides x = of(">.<");
        due("no brook", new FrogsChangeSides().image(), STATE);
        promise = 26;
        due("none was kept", x.restore(), STATE);
        promise = 25;
        go(x, "01");
        due("image", x.image(), 1);
        go(x, "20 12");
        promise = 26;
        due("restore", x.restore(), 1);
        row(x, ".><");
        due("who was moved", x.about(0, 2), 1);
        due("who was not", x.about(1, 2), 0);
        due("frog 1", x.frog(2), 1);
        due("taken back behind it", x.back(), 0);
        row(x, ">.<");
        go(x, "21");
        due("restore again", x.restore(), 1);
        row(x, ".><");
        due("back", x.back(), 0);
        promise = 25;
        due("the latest", x.image(), 0);
        go(x, "21");
        promise = 26;
        due("restore the latest", x.restore(), 0);
        row(x, ">.<");
        due("nothing is kept", x.back(), STATE);
    }

    private static void imageAndBrooks() {
        promise = 26;
        FrogsChangeSides x = of(">.<");
        x.image();
        go(x, "01");
        write(x, "..");
        due("no brook read", x.brook(), STATE);
        due("so it is there", x.restore(), 0);
        due("the page is not in it", x.count(8), 2);
        x.blank();
        write(x, ">.<");
        due("the same brook", x.brook(), 3);
        due("gone", x.restore(), STATE);
        due("read twice", x.count(9), 2);
        promise = 25;
        go(x, "01");
        due("image", x.image(), 1);
        promise = 26;
        due("restore", x.restore(), 1);
    }

    private static void count() {
        promise = 27;
        FrogsChangeSides x = of(">g.<o.<;ar");
        go(x, "12");
        write(x, "xy");
        int[] told = {7, 5, 1, 2, 1, 0, 1, 0, 2, 1};
        for (int what = 0; what < 10; what++) {
            due("count(" + what + ")", x.count(what), told[what]);
        }
        FrogsChangeSides y = of(">..;bt");
        int[] other = {3, 1, 0, 2, 0, 1, 0, 1, 0, 1};
        for (int what = 0; what < 10; what++) {
            due("count(" + what + ")", y.count(what), other[what]);
        }
        for (int what : new int[] {-1, 10, LOW, HIGH}) {
            due("count(" + what + ")", y.count(what), OUTSIDE);
        }
    }

    private static long folded(long... numbers) {
        long h = 613;
        for (long n : numbers) {
            h = 31 * h + n;
        }
        return h;
    }

    private static void digest() {
        promise = 28;
        FrogsChangeSides x = of(">.<");
        due("of >.<", x.digest(), folded(1, 0, -1, -1, 2, 1, 1, 0, 0, 2, 2, 0, 2, 3, 0, 1, 2, -1, 1, 3, 1, 1,
            3, 2, 0, 1, 0, 0, 0, 0, 0, 1));
        go(x, "01");
        write(x, "x;");
        due("with a page", x.digest(), folded(-1, -1, 1, 0, 2, 1, 1, 1, 1, 2, 2, 0, 1, 2, 2, 0, 1, -1, 1, 2, 0, 0,
            'x', ';', 3, 2, 1, 1, 0, 0, 0, 0, 2, 1));
        due("with BACK", of(">..;b").digest(), folded(1, 0, -1, -1, -1, -1, 1, 0, 0, 1, 2, 0, 1, 1, -1, 0, -1,
            3, 1, 0, 2, 0, 1, 0, 0, 0, 1));
        due("without a brook, with a page", page("x").digest(), folded(0, 'x', 0, 0, 0, 0, 0, 0, 0, 0, 1, 0));
    }
}
