import java.math.BigInteger;
import java.util.ArrayList;
import java.util.List;

/** The edges that promises 1 to 28 name, each sentence by itself, on the edge and just beyond it. */
public final class FrogsChangeSidesEdgesOfCalls {
    private static final int[] FAR = {Edges.LOW, Edges.LOW + 1, -1000, -104, -3, -2, 8, 16, 64, 256, 65536, Edges.HIGH - 1, Edges.HIGH};

    public static void main(String[] args) {
        newObject();
        letters();
        lettersOutside();
        lettersFull();
        blank();
        fault();
        brook();
        on();
        frog();
        about();
        as();
        may();
        moves();
        move();
        back();
        fewest();
        ways();
        wrong();
        endsAndSoon();
        comes();
        more();
        off();
        wins();
        by();
        play();
        image();
        restore();
        count();
        digest();
        manyBrooks();
        Edges.end();
    }

    /** A call with one number: refused on each of these and on all that are far away. */
    private interface CallOf {
        long on(FrogsChangeSides x, int number);
    }

    private static void refusedOn(String steps, String what, long want, CallOf call, int... numbers) {
        for (int number : numbers) {
            Edges.refused(steps, what + " with " + number, want, x -> call.on(x, number));
        }
        for (int number : FAR) {
            Edges.refused(steps, what + " with " + number, want, x -> call.on(x, number));
        }
    }

    private static void newObject() {
        Edges.sentence(1, "No BROOK.");
        for (int i = 0; i <= 9; i++) {
            int what = i;
            Edges.asked("", "count(" + i + ")", 0, x -> x.count(what));
        }
        Edges.refused("", "fewest(0)", Edges.STATE, x -> x.fewest(0));
        Edges.refused("", "image()", Edges.STATE, x -> x.image());
        Edges.refused("", "restore()", Edges.STATE, x -> x.restore());
        Edges.refused("", "brook()", Edges.STATE, x -> x.brook());
        FrogsChangeSides first = Edges.led("=>.< 01 ! +x");
        Edges.due("one object knows nothing of another", new FrogsChangeSides().digest(), Edges.led("").digest());
        Edges.due("nor is the first changed", first.digest(), Edges.led("=>.< 01 ! +x").digest());
    }

    private static void letters() {
        Edges.sentence(2, "Letters come behind THE PAGE");
        FrogsChangeSides x = Edges.led("");
        Edges.due("first", x.letters('>'), 1);
        Edges.due("second", x.letters('.'), 2);
        Edges.due("third", x.letters('<'), 3);
        Edges.due("read", x.brook(), 3);
        Edges.row(x, ">.<");
        Edges.due("of the brook nothing is on the page", x.letters('>'), 1);

        Edges.sentence(2, "up to eight .. until a byte that is 0: how many THE PAGE has");
        String eight = "abcdefgh";
        for (int many = 0; many <= 8; many++) {
            FrogsChangeSides y = Edges.led("");
            Edges.due(many + " letters", y.letters(Edges.word(eight.substring(0, many))), many);
            Edges.due("none more", y.letters(0), many);
            Edges.due("one more", y.letters('x'), many + 1);
        }

        Edges.sentence(2, "told by their codes in the bytes of w, the lowest byte first");
        FrogsChangeSides z = Edges.led("");
        Edges.due("eight", z.letters(0x3B6F3C2E673E2E3EL), 8);
        Edges.due("a sign", z.letters('t'), 9);
        Edges.due("read", z.brook(), 7);
        Edges.row(z, ">.>g.<o");
        Edges.due("TWO", z.count(7), 1);
    }

    private static void lettersOutside() {
        Edges.sentence(2, "OUTSIDE: a byte above 126");
        for (int place = 0; place < 8; place++) {
            long ahead = Edges.word("ABCDEFGH".substring(0, place));
            int shift = 8 * place;
            Edges.due("1 at " + place, Edges.led("").letters(ahead | 1L << shift), place + 1);
            Edges.due("126 at " + place, Edges.led("").letters(ahead | 126L << shift), place + 1);
            for (long code : new long[] {127, 128, 129, 254, 255}) {
                Edges.refused("+>.", code + " at " + place, Edges.OUTSIDE, x -> x.letters(ahead | code << shift));
            }
        }
        Edges.refused("+>.", "all bits", Edges.OUTSIDE, x -> x.letters(-1L));
        Edges.refused("+>.", "the least long", Edges.OUTSIDE, x -> x.letters(Long.MIN_VALUE));
        Edges.refused("+>.", "the greatest long", Edges.OUTSIDE, x -> x.letters(Long.MAX_VALUE));
        FrogsChangeSides y = Edges.led("");
        Edges.due("eight times 126", y.letters(0x7E7E7E7E7E7E7E7EL), 8);

        Edges.sentence(2, "or one behind a 0 that is not 0");
        for (int zero = 0; zero < 8; zero++) {
            for (int behind = zero + 1; behind < 8; behind++) {
                long w = Edges.word("ABCDEFGH".substring(0, zero)) | 1L << 8 * behind;
                Edges.refused("+>.", "0 at " + zero + ", 1 at " + behind, Edges.OUTSIDE, x -> x.letters(w));
            }
            long whole = 0x4141414141414141L & ~(255L << 8 * zero);
            if (zero < 7) {
                Edges.refused("=>.<", "only 0 at " + zero, Edges.OUTSIDE, x -> x.letters(whole));
            } else {
                Edges.due("only the last is 0", Edges.led("").letters(whole), 7);
            }
        }
    }

    private static void lettersFull() {
        Edges.sentence(2, "FULL: above 14");
        for (int had = 0; had <= 14; had++) {
            String steps = had == 0 ? "" : "+" + "abcdefghijklmn".substring(0, had);
            for (int more = 0; more <= 8; more++) {
                long w = Edges.word("ABCDEFGH".substring(0, more));
                int all = had + more;
                if (all <= 14) {
                    Edges.due(more + " behind " + had, Edges.led(steps).letters(w), all);
                } else {
                    Edges.refused(steps, more + " behind " + had, Edges.FULL, x -> x.letters(w));
                }
            }
        }
        Edges.refused("=>.< 01 ! 20 +abcdefghijklmn", "one above", Edges.FULL, x -> x.letters('a'));
        Edges.refused("+abcdefghijklm", "two on thirteen", Edges.FULL, x -> x.letters(Edges.word("ab")));
        FrogsChangeSides x = Edges.led("+abcdefghijklm");
        Edges.due("FULL", x.letters(Edges.word("ab")), Edges.FULL);
        Edges.due("one still has room", x.letters('a'), 14);
        Edges.due("blank", x.blank(), 14);
        Edges.due("room again", x.letters(Edges.word("abcdefgh")), 8);
    }

    private static void blank() {
        Edges.sentence(3, "THE PAGE is empty: how many letters it had.");
        FrogsChangeSides x = Edges.led("");
        Edges.due("of an empty page", x.blank(), 0);
        Edges.write(x, "x");
        Edges.due("of one letter", x.blank(), 1);
        Edges.due("again", x.blank(), 0);
        Edges.write(x, "abcdefghijklmn");
        Edges.due("of fourteen", x.blank(), 14);
        Edges.due("letters", x.count(8), 0);
        Edges.due("fault", x.fault(), 0);
        Edges.due("no brook is left on it", x.brook(), Edges.STATE);
        for (String longer : new String[] {">.<;abrt", ">.<;xxxxxx", ">.<.<.<;abrt", "xxxxxxxxxxxxxx"}) {
            for (String shorter : new String[] {"+>.<;a", "+>.<;", "+>.<", "+>."}) {
                FrogsChangeSides z = Edges.led("+" + longer);
                Edges.due("of " + longer, z.blank(), longer.length());
                Edges.write(z, shorter.substring(1));
                Edges.alike("letters that were there", z, Edges.led(shorter));
            }
        }
        FrogsChangeSides y = Edges.led(Edges.RICH);
        Edges.due("of a rich one", y.blank(), 5);
        Edges.alike("blank()", y, Edges.led(Edges.RICH.substring(0, Edges.RICH.indexOf(" +"))));
    }

    private static void faults(String text, int want) {
        Edges.asked("+" + text, "fault() of " + text, want, x -> x.fault());
    }

    private static void fault() {
        Edges.sentence(4, "The place (from 0) of the first letter of THE PAGE that no BROOK has there");
        faults("x", 0);
        faults(";", 0);
        faults("a", 0);
        faults("xx.", 0);
        faults(".x.x", 1);
        faults("..x", 2);
        faults(">.....<;abrtx", 12);
        faults(">.....<;abrtxx", 12);
        faults("xxxxxxxxxxxxxx", 0);
        faults("..............", 7);

        Edges.sentence(4, "behind those ahead of it");
        faults("..;", 2);
        faults("...;", 4);
        faults(".......;", 8);
        faults("........", 7);
        faults("...a", 3);
        faults("...;a", 5);
        faults("...;.", 4);
        faults("...;;", 4);
        faults("...;ab", 6);
        faults("...;ba", 5);
        faults("...;aa", 5);
        faults("...;ta", 5);
        faults("...;tt", 5);
        faults("...;rt", 6);

        Edges.sentence(4, "(that there is a FROG is not looked at)");
        faults("...", 3);
        faults(".......", 7);
        faults(".......;abrt", 12);

        Edges.sentence(4, "how many letters it has, if there is none");
        faults("", 0);
        faults(">", 1);
        faults(">>", 2);
        faults(">.<", 3);
        faults(">.<;", 4);
        faults(">.....<;abrt", 12);
        Edges.asked("=>.<", "fault() of an empty page with a brook", 0, x -> x.fault());
    }

    private static void brook() {
        Edges.sentence(5, "THE PAGE is read as THE BROOK (another one is gone): how many STONES");
        FrogsChangeSides x = Edges.led("=>>.<<;abrt 12 ! 31 +g...");
        Edges.due("another one", x.brook(), 4);
        Edges.row(x, "g...");
        int[] told = {4, 1, 0, 3, 0, 0, 0, 0, 0, 2};
        for (int what = 0; what < 10; what++) {
            Edges.due("count(" + what + ")", x.count(what), told[what]);
        }
        Edges.due("nothing is kept", x.back(), Edges.STATE);
        Edges.due("no image", x.restore(), Edges.STATE);
        Edges.due("no fifth stone", x.on(4), Edges.UNKNOWN);
        Edges.due("no second frog", x.about(1, 0), Edges.UNKNOWN);
        Edges.due("never moved", x.about(0, 2), 0);
        Edges.due("another goal", x.fewest(0), 3);
        Edges.due("nothing was wrong", x.wrong(), Edges.NONE);
        FrogsChangeSides other = Edges.led("=>o.");
        Edges.due("it does not win", other.wins(0), 0);
        Edges.write(other, ">o.;a");
        Edges.due("the same row with a sign", other.brook(), 3);
        Edges.due("it wins", other.wins(0), 1);
        FrogsChangeSides same = Edges.led("=>.< 01 20 12 =>.<");
        Edges.row(same, ">.<");
        Edges.due("the same once more: nothing is kept", same.count(2), 0);
        Edges.due("read twice", same.count(9), 2);

        Edges.sentence(5, "THE PAGE is empty then");
        Edges.due("letters", x.count(8), 0);
        Edges.due("brook() again", x.brook(), Edges.STATE);
        Edges.row(x, "g...");
        FrogsChangeSides signs = Edges.led("=>.<;abrt =>.<;a");
        for (int what = 4; what <= 7; what++) {
            Edges.due("signs of the second alone, " + what, signs.count(what), what == 4 ? 1 : 0);
        }
        Edges.due("room for eight", x.letters(Edges.word("abcdefgh")), 8);
        Edges.due("and six", x.letters(Edges.word("abcdef")), 14);

        Edges.sentence(5, "STATE: it is none");
        for (String text : new String[] {"+", "+>", "+>.", "+...", "+>.<;", "+>......<", "+>.<;ba", "+>.<x", "+x>.<", "+>.<;abrtx"}) {
            Edges.refused(text, "brook()", Edges.STATE, y -> y.brook());
            Edges.refused("=>>.<< 12 ! 31 " + text, "brook()", Edges.STATE, y -> y.brook());
            Edges.refused("=>..;r 01 ! 12 20 " + text, "brook()", Edges.STATE, y -> y.brook());
        }
    }

    private static void on() {
        Edges.sentence(6, "What stands on a STONE: NONE, or a KIND (1 to 4). UNKNOWN.");
        String steps = "=.><og.<";
        int[] told = {Edges.NONE, 1, 2, 3, 4, Edges.NONE, 2};
        for (int i = 0; i < 7; i++) {
            int stone = i;
            Edges.asked(steps, "on(" + i + ")", told[i], x -> x.on(stone));
        }
        refusedOn(steps, "on", Edges.UNKNOWN, (x, n) -> x.on(n), -1, 7);
        refusedOn(Edges.RICH, "on", Edges.UNKNOWN, (x, n) -> x.on(n), -1, 5, 6, 7);
        refusedOn("", "on", Edges.UNKNOWN, (x, n) -> x.on(n), -1, 0, 1);
    }

    private static void frog() {
        Edges.sentence(7, "The FROG that stands on a STONE; NONE. UNKNOWN.");
        int[] told = {0, 2, 1, Edges.NONE, 3};
        for (int i = 0; i < 5; i++) {
            int stone = i;
            Edges.asked(Edges.RICH, "frog(" + i + ")", told[i], x -> x.frog(stone));
        }
        refusedOn(Edges.RICH, "frog", Edges.UNKNOWN, (x, n) -> x.frog(n), -1, 5, 6, 7);
        refusedOn("=>>>>>>>", "frog", Edges.UNKNOWN, (x, n) -> x.frog(n), -1, 7);
        refusedOn("", "frog", Edges.UNKNOWN, (x, n) -> x.frog(n), -1, 0, 1);
    }

    private static void about() {
        Edges.sentence(8, "Of a FROG: what = 0 KIND, 1 its STONE, 2 how often it was moved (of what is kept).");
        int[][] told = {{1, 0, 0}, {1, 2, 1}, {2, 1, 1}, {2, 4, 0}};
        for (int i = 0; i < 4; i++) {
            for (int j = 0; j < 3; j++) {
                int frog = i;
                int what = j;
                Edges.asked(Edges.RICH, "about(" + i + ", " + j + ")", told[i][j], x -> x.about(frog, what));
            }
        }
        FrogsChangeSides x = Edges.led(Edges.RICH);
        x.back();
        Edges.due("taken back is not kept", x.about(2, 2), 0);
        Edges.due("and it is where it was", x.about(2, 1), 3);

        Edges.sentence(8, "UNKNOWN; OUTSIDE.");
        refusedOn(Edges.RICH, "about frog", Edges.UNKNOWN, (y, n) -> y.about(n, 0), -1, 4, 5);
        refusedOn(Edges.RICH, "about what", Edges.OUTSIDE, (y, n) -> y.about(3, n), -1, 3);
        refusedOn("=>>>>>>>", "about frog", Edges.UNKNOWN, (y, n) -> y.about(n, 2), -1, 7);
        refusedOn("=>>>>>>>", "about what", Edges.OUTSIDE, (y, n) -> y.about(6, n), -1, 3);
        refusedOn("=.....>.", "about frog", Edges.UNKNOWN, (y, n) -> y.about(n, 1), -1, 1);
        refusedOn("", "about frog", Edges.UNKNOWN, (y, n) -> y.about(n, 0), -1, 0);
        refusedOn("", "about both", Edges.UNKNOWN, (y, n) -> y.about(0, n), -1, 0, 3);
    }

    private static void as() {
        Edges.sentence(9, "A FROG taken as a KIND: its own number (not that of the KIND)");
        Edges.asked("=<>..", "frog 0 as BROWN", 0, x -> x.as(0, 2));
        Edges.asked("=<>..", "frog 1 as FROG", 1, x -> x.as(1, 0));
        Edges.asked("=ooooooo", "frog 6 as TOAD", 6, x -> x.as(6, 3));
        Edges.asked("=gg.g", "frog 2 as GREEN", 2, x -> x.as(2, 1));
        Edges.asked("=gg.g", "frog 2 as OLD", 2, x -> x.as(2, 4));

        Edges.sentence(9, "NONE: it is none such (the cast fails)");
        Edges.asked("=>..", "GREEN as OLD", Edges.NONE, x -> x.as(0, 4));
        Edges.asked("=>..", "GREEN as BROWN", Edges.NONE, x -> x.as(0, 2));
        Edges.asked("=g..", "OLD as BROWN", Edges.NONE, x -> x.as(0, 2));
        Edges.asked("=g..", "OLD as TOAD", Edges.NONE, x -> x.as(0, 3));
        Edges.asked("=o..", "TOAD as GREEN", Edges.NONE, x -> x.as(0, 1));
        Edges.asked("=<..", "BROWN as GREEN", Edges.NONE, x -> x.as(0, 1));

        Edges.sentence(9, "UNKNOWN; OUTSIDE.");
        refusedOn(Edges.RICH, "as frog", Edges.UNKNOWN, (x, n) -> x.as(n, 0), -1, 4, 5);
        refusedOn(Edges.RICH, "as kind", Edges.OUTSIDE, (x, n) -> x.as(3, n), -1, 5);
        refusedOn("=ooooooo", "as frog", Edges.UNKNOWN, (x, n) -> x.as(n, 4), -1, 7);
        refusedOn("=ooooooo", "as kind", Edges.OUTSIDE, (x, n) -> x.as(6, n), -1, 5);
        refusedOn("", "as frog", Edges.UNKNOWN, (x, n) -> x.as(n, 0), -1, 0);
        refusedOn("", "as both", Edges.UNKNOWN, (x, n) -> x.as(0, n), -1, 5);
    }

    private static void may() {
        Edges.sentence(10, "Whether who stands on a STONE MAY be moved to another one: 1, 0.");
        Edges.asked("=>.<", "it MAY", 1, x -> x.may(0, 1));
        Edges.asked("=>.<", "it MAY not", 0, x -> x.may(0, 2));
        for (String text : new String[] {"=>.<", "=>.<;abrt", "=ooo", "=>..;r"}) {
            for (int i = 0; i < 3; i++) {
                int stone = i;
                Edges.asked(text, "to where it is, " + i, 0, x -> x.may(stone, stone));
            }
        }
        Edges.asked("=>.<;abrt", "nobody stands there", 0, x -> x.may(1, 0));

        Edges.sentence(10, "UNKNOWN: from, to.");
        for (String steps : new String[] {"=>.<;abrt", "=>.< 01"}) {
            refusedOn(steps, "may from", Edges.UNKNOWN, (x, n) -> x.may(n, 1), -1, 3);
            refusedOn(steps, "may to", Edges.UNKNOWN, (x, n) -> x.may(0, n), -1, 3);
            refusedOn(steps, "may both", Edges.UNKNOWN, (x, n) -> x.may(n, n), -1, 3);
            refusedOn(steps, "may to, nobody there", Edges.UNKNOWN, (x, n) -> x.may(1, n), -1, 3);
        }
        refusedOn("=<.....>;r", "may from", Edges.UNKNOWN, (x, n) -> x.may(n, 1), -1, 7);
        refusedOn("=<.....>;r", "may to", Edges.UNKNOWN, (x, n) -> x.may(6, n), -1, 7);
        refusedOn("", "may from", Edges.UNKNOWN, (x, n) -> x.may(n, 1), -1, 0);
        refusedOn("", "may to", Edges.UNKNOWN, (x, n) -> x.may(0, n), -1, 1);
    }

    private static void moves() {
        Edges.sentence(11, "How many MOVES there are now.");
        Edges.asked("", "without a brook", 0, x -> x.moves());
        Edges.asked("+>.<", "with a page alone", 0, x -> x.moves());
        Edges.asked("=<.>", "stuck", 0, x -> x.moves());
        Edges.asked("=>>>;abrt", "no free stone", 0, x -> x.moves());
        Edges.asked("=>.<", "two", 2, x -> x.moves());
        Edges.asked("=>.< 01", "now one", 1, x -> x.moves());
        Edges.asked("=>.< 01 20 12", "now none", 0, x -> x.moves());
        Edges.asked("=>.>.>.>;abr", "two of each frog", 8, x -> x.moves());
    }

    private static void move() {
        Edges.sentence(12, "A MOVE: how many are kept.");
        FrogsChangeSides x = Edges.led("=>.<");
        Edges.due("the first", x.move(0, 1), 1);
        Edges.due("the second", x.move(2, 0), 2);
        x.back();
        Edges.due("the second again", x.move(2, 0), 2);
        Edges.due("the third", x.move(1, 2), 3);

        Edges.sentence(12, "UNKNOWN: from, to");
        refusedOn(Edges.RICH, "move from", Edges.UNKNOWN, (y, n) -> y.move(n, 3), -1, 5, 6, 7);
        refusedOn(Edges.RICH, "move to", Edges.UNKNOWN, (y, n) -> y.move(2, n), -1, 5, 6, 7);
        refusedOn("=<.....>;r", "move to", Edges.UNKNOWN, (y, n) -> y.move(6, n), -1, 7);
        refusedOn("=<.....>;r", "move from", Edges.UNKNOWN, (y, n) -> y.move(n, 1), -1, 7);
        refusedOn("", "move from", Edges.UNKNOWN, (y, n) -> y.move(n, 1), -1, 0);
        refusedOn("", "move to", Edges.UNKNOWN, (y, n) -> y.move(0, n), -1, 1);

        Edges.sentence(12, "STATE: it MAY not be");
        Edges.refused(Edges.RICH, "nobody there", Edges.STATE, y -> y.move(3, 2));
        Edges.refused(Edges.RICH, "where it is", Edges.STATE, y -> y.move(2, 2));
        Edges.refused(Edges.RICH, "not forth", Edges.STATE, y -> y.move(2, 1));
        Edges.refused(Edges.RICH, "too far", Edges.STATE, y -> y.move(0, 3));
        Edges.refused("=>.<", "the free stone to itself", Edges.STATE, y -> y.move(1, 1));
        Edges.refused("=..>", "round, without RING", Edges.STATE, y -> y.move(2, 0));
        Edges.refused("=o..;abrt", "a TOAD", Edges.STATE, y -> y.move(0, 1));

        Edges.sentence(12, "FULL.");
        String many = "=>..;r " + "01 12 20 ".repeat(19) + "01 12 ";
        FrogsChangeSides full = Edges.led(many);
        Edges.due("59 are kept", full.count(2), 59);
        Edges.due("the 60th", full.move(2, 0), 60);
        Edges.due("the 61st", full.move(0, 1), Edges.FULL);
        Edges.refused(many + "20", "the 61st", Edges.FULL, y -> y.move(0, 1));
        Edges.refused(Edges.SIXTY, "the 61st", Edges.FULL, y -> y.move(0, 1));
    }

    private static void back() {
        Edges.sentence(13, "The last MOVE is taken back: from where it was.");
        FrogsChangeSides x = Edges.led("=>.<;r 01 20 02");
        Edges.due("the third", x.back(), 0);
        Edges.row(x, "<>.");
        Edges.due("the second", x.back(), 2);
        Edges.row(x, ".><");
        Edges.due("the first", x.back(), 0);
        Edges.row(x, ">.<");
        Edges.due("frog 0", x.frog(0), 0);
        Edges.due("frog 1", x.frog(2), 1);
        FrogsChangeSides round = Edges.led("=<.....>;r 61");
        Edges.due("over the end", round.back(), 6);
        Edges.alike("back()", round, Edges.led("=<.....>;r"));

        Edges.sentence(13, "STATE: none is kept.");
        Edges.refused("", "without a brook", Edges.STATE, y -> y.back());
        Edges.refused("+>.<", "without a brook", Edges.STATE, y -> y.back());
        Edges.refused("=>.<", "as it was read", Edges.STATE, y -> y.back());
        Edges.refused("=>.< 01 20 =>.< +x", "another was read", Edges.STATE, y -> y.back());
        FrogsChangeSides all = Edges.led("=>.< ! 01");
        Edges.due("one is kept", all.back(), 0);
        Edges.due("none is kept", all.back(), Edges.STATE);
        Edges.alike("back() too often", all, Edges.led("=>.< !"));
        FrogsChangeSides restored = Edges.led("=>.< ! 01");
        restored.restore();
        Edges.due("none is kept in the image", restored.back(), Edges.STATE);
    }

    private static void fewest() {
        Edges.sentence(14, "what = 0 how many, 1 from which STONE first, 2 to which (NONE: it is so); NONE: it can't be.");
        int[][] told = {{8, 1, 2}, {0, Edges.NONE, Edges.NONE}, {Edges.NONE, Edges.NONE, Edges.NONE}};
        String[] steps = {"=>>.<<", "=.>.", "=..>"};
        for (int i = 0; i < 3; i++) {
            for (int j = 0; j < 3; j++) {
                int what = j;
                Edges.asked(steps[i], "fewest(" + j + ")", told[i][j], x -> x.fewest(what));
            }
        }

        Edges.sentence(14, "OUTSIDE; STATE.");
        refusedOn(Edges.RICH, "fewest", Edges.OUTSIDE, (x, n) -> x.fewest(n), -1, 3);
        refusedOn("", "fewest", Edges.OUTSIDE, (x, n) -> x.fewest(n), -1, 3);
        for (int i = 0; i < 3; i++) {
            int what = i;
            Edges.refused("", "fewest(" + i + ")", Edges.STATE, x -> x.fewest(what));
            Edges.refused("+>.<", "fewest(" + i + ")", Edges.STATE, x -> x.fewest(what));
        }
    }

    private static void ways() {
        Edges.sentence(15, "WAYS (0: there are none). STATE.");
        Edges.asked("=..>", "none", 0, x -> x.ways());
        Edges.asked("=>..", "one", 1, x -> x.ways());
        Edges.asked("=.>.", "it is so", 1, x -> x.ways());
        Edges.asked("=>.< 01 20 12", "it is so now", 1, x -> x.ways());
        Edges.asked("=>>.<< 12 01", "none any more", 0, x -> x.ways());
        Edges.refused("", "ways()", Edges.STATE, x -> x.ways());
        Edges.refused("+>.<", "ways()", Edges.STATE, x -> x.ways());
    }

    private static void wrong() {
        Edges.sentence(16, "WRONG; NONE. STATE.");
        Edges.asked("=>>.<<", "nothing is kept", Edges.NONE, x -> x.wrong());
        Edges.asked("=>>.<< 12", "none of one", Edges.NONE, x -> x.wrong());
        Edges.asked("=>>.<< 12 01", "the second", 2, x -> x.wrong());
        Edges.asked("=.>. 12", "the first", 1, x -> x.wrong());
        Edges.refused("", "wrong()", Edges.STATE, x -> x.wrong());
        Edges.refused("+>.<", "wrong()", Edges.STATE, x -> x.wrong());
    }

    private static void endsAndSoon() {
        Edges.sentence(17, "ENDS. STATE.");
        Edges.asked("=..>;b", "none", 0, x -> x.ends());
        Edges.asked("=..>", "as it is", 1, x -> x.ends());
        Edges.asked("=g.<", "two", 2, x -> x.ends());
        Edges.refused("", "ends()", Edges.STATE, x -> x.ends());
        Edges.refused("+>.<", "ends()", Edges.STATE, x -> x.ends());

        Edges.sentence(18, "SOON; NONE: there are no ENDS. STATE.");
        Edges.asked("=..>;b", "never", Edges.NONE, x -> x.soon());
        Edges.asked("=..>", "now", 0, x -> x.soon());
        Edges.asked("=.>.", "by one", 1, x -> x.soon());
        Edges.asked("=g.<", "the sooner one", 1, x -> x.soon());
        Edges.refused("", "soon()", Edges.STATE, x -> x.soon());
        Edges.refused("+>.<", "soon()", Edges.STATE, x -> x.soon());
    }

    private static void comes() {
        Edges.sentence(19, "COMES; NONE: it can't; THE PAGE stays.");
        FrogsChangeSides x = Edges.led("=>.< +<.>");
        Edges.due("by three", x.comes(), 3);
        Edges.due("letters", x.count(8), 3);
        Edges.due("again", x.comes(), 3);
        Edges.due("nothing was moved", x.count(2), 0);
        Edges.due("what is on the page", x.brook(), 3);
        Edges.row(x, "<.>");
        Edges.asked("=>.< +>..", "it can't", Edges.NONE, y -> y.comes());
        Edges.asked("=>.< +>.<", "by none", 0, y -> y.comes());

        Edges.sentence(19, "STATE: no BROOK, or THE PAGE is no such ROW.");
        Edges.refused("", "comes()", Edges.STATE, y -> y.comes());
        Edges.refused("+>.<", "comes() without a brook", Edges.STATE, y -> y.comes());
        Edges.refused("=>.<", "an empty page", Edges.STATE, y -> y.comes());
        for (String text : new String[] {"x", ">.", ">.<.", ">.x", "x.<", ">.<;", ">.<;a", ">.......", ">.<>.<>.<>.<>."}) {
            Edges.refused("=>.< 01 ! 20 +" + text, "comes()", Edges.STATE, y -> y.comes());
        }
        Edges.refused("=>.....< +>....<", "six for seven", Edges.STATE, y -> y.comes());
        Edges.asked("=>.....< +>.....<", "seven for seven", 0, y -> y.comes());
        Edges.refused("=>.....< +>......<", "eight for seven", Edges.STATE, y -> y.comes());
    }

    private static void more() {
        Edges.sentence(20, "STONE MORE: what = 0 the place, 1 FEWEST; NONE: by none.");
        Edges.asked("=>><", "the place", 3, x -> x.more(0));
        Edges.asked("=>><", "how many", 3, x -> x.more(1));
        Edges.asked("=o..", "no place", Edges.NONE, x -> x.more(0));
        Edges.asked("=o..", "no fewest", Edges.NONE, x -> x.more(1));
        Edges.asked("=oo.", "the least place", 0, x -> x.more(0));
        Edges.asked("=oo.", "the least number", 0, x -> x.more(1));

        Edges.sentence(20, "OUTSIDE; STATE: no BROOK, or it has seven STONES.");
        refusedOn(Edges.RICH, "more", Edges.OUTSIDE, (x, n) -> x.more(n), -1, 2);
        refusedOn("", "more", Edges.OUTSIDE, (x, n) -> x.more(n), -1, 2);
        refusedOn("=>>>.<<<", "more", Edges.OUTSIDE, (x, n) -> x.more(n), -1, 2);
        for (int i = 0; i < 2; i++) {
            int what = i;
            Edges.refused("", "more(" + i + ")", Edges.STATE, x -> x.more(what));
            Edges.refused("+>.<", "more(" + i + ")", Edges.STATE, x -> x.more(what));
            Edges.refused("=>.....<", "more(" + i + ") of seven", Edges.STATE, x -> x.more(what));
        }
        Edges.asked("=o....o", "six stones, the place", 1, x -> x.more(0));
        Edges.asked("=o....o", "six stones, how many", 0, x -> x.more(1));
        Edges.asked("=.....<", "behind the sixth", 6, x -> x.more(0));
        Edges.asked("=.....<", "how many then", 4, x -> x.more(1));
    }

    private static void off() {
        Edges.sentence(21, "LET OFF: what = 0 the FROG, 1 FEWEST; NONE: by none.");
        Edges.asked("=>><", "the frog", 0, x -> x.off(0));
        Edges.asked("=>><", "how many", 1, x -> x.off(1));
        Edges.asked("=o.o", "no frog", Edges.NONE, x -> x.off(0));
        Edges.asked("=o.o", "no fewest", Edges.NONE, x -> x.off(1));
        Edges.asked("=..o", "the only one", 0, x -> x.off(0));
        Edges.asked("=..o", "the only one", 0, x -> x.off(1));
        Edges.asked("=>>>.<<<", "seven stones have no refusal here", 0, x -> x.off(0));

        Edges.sentence(21, "OUTSIDE; STATE.");
        refusedOn(Edges.RICH, "off", Edges.OUTSIDE, (x, n) -> x.off(n), -1, 2);
        refusedOn("", "off", Edges.OUTSIDE, (x, n) -> x.off(n), -1, 2);
        for (int i = 0; i < 2; i++) {
            int what = i;
            Edges.refused("", "off(" + i + ")", Edges.STATE, x -> x.off(what));
            Edges.refused("+>.<", "off(" + i + ")", Edges.STATE, x -> x.off(what));
        }
    }

    private static void wins() {
        Edges.sentence(22, "WINS: 1, 0. OUTSIDE: side (0, 1)");
        Edges.asked("=>..", "side 0", 1, x -> x.wins(0));
        Edges.asked("=>..", "side 1", 0, x -> x.wins(1));
        refusedOn(Edges.RICH, "wins", Edges.OUTSIDE, (x, n) -> x.wins(n), -1, 2);
        refusedOn("", "wins", Edges.OUTSIDE, (x, n) -> x.wins(n), -1, 2);
        refusedOn("=>.<;br", "wins", Edges.OUTSIDE, (x, n) -> x.wins(n), -1, 2);

        Edges.sentence(22, "STATE: no BROOK, BACK, RING.");
        for (int i = 0; i < 2; i++) {
            int side = i;
            for (String steps : new String[] {"", "+>.<", "=>.<;b", "=>.<;r", "=>.<;br 01 ! +x"}) {
                Edges.refused(steps, "wins(" + i + ")", Edges.STATE, x -> x.wins(side));
            }
            Edges.asked("=>.<;at", "wins(" + i + ")", 1, x -> x.wins(side));
        }
    }

    private static void by() {
        Edges.sentence(23, "BY which MOVE: what = 0 from, 1 to; NONE: it does not win.");
        Edges.asked("=>..", "from", 0, x -> x.by(0, 0));
        Edges.asked("=>..", "to", 1, x -> x.by(0, 1));
        Edges.asked("=>..", "it does not win", Edges.NONE, x -> x.by(1, 0));
        Edges.asked("=>..", "it does not win", Edges.NONE, x -> x.by(1, 1));
        Edges.asked("=......<", "from the last stone", 6, x -> x.by(1, 0));
        Edges.asked("=......<", "to", 5, x -> x.by(1, 1));
        Edges.asked("=.<.", "to the first stone", 0, x -> x.by(1, 1));

        Edges.sentence(23, "OUTSIDE: side, what; STATE, as wins().");
        for (String steps : new String[] {Edges.RICH, "", "=>.<;b"}) {
            refusedOn(steps, "by side", Edges.OUTSIDE, (x, n) -> x.by(n, 0), -1, 2);
            refusedOn(steps, "by what", Edges.OUTSIDE, (x, n) -> x.by(0, n), -1, 2);
        }
        for (String steps : new String[] {"", "+>.<", "=>.<;b", "=>.<;r", "=>.<;br 01 ! +x"}) {
            for (int i = 0; i < 4; i++) {
                int side = i / 2;
                int what = i % 2;
                Edges.refused(steps, "by(" + side + ", " + what + ")", Edges.STATE, x -> x.by(side, what));
            }
        }
    }

    private static void play() {
        Edges.sentence(24, "PLAY: what = 0 how many MOVES, 1 whether it is as THE GOAL then (1, 0), 2 the SEED then.");
        Edges.asked("=>..", "how many", 2, x -> x.play(2, 0, 0));
        Edges.asked("=>..", "at the goal", 1, x -> x.play(2, 0, 1));
        Edges.asked("=>..", "not yet", 0, x -> x.play(1, 0, 1));
        Edges.asked("=>..", "the seed", 12345, x -> x.play(1, 0, 2));
        Edges.asked("=.>.", "past the goal", 0, x -> x.play(1, 0, 1));
        Edges.asked("=ooo", "at the goal by none", 1, x -> x.play(1, 0, 1));
        Edges.asked(Edges.RICH, "as it would be", 2, x -> x.play(2, 3, 0));
        Edges.asked(Edges.SIXTY, "as it would be", 60, x -> x.play(60, 3, 0));

        Edges.sentence(24, "OUTSIDE: times (1 to 60), seed (0 at least), what; STATE: no BROOK.");
        Edges.asked("=>..;b", "1 time", 1, x -> x.play(1, 0, 0));
        Edges.asked("=>..;b", "60 times", 60, x -> x.play(60, 0, 0));
        Edges.asked("=>..;b", "seed 0", 12345, x -> x.play(1, 0, 2));
        Edges.asked("=>..;b", "the greatest seed", 1043980748, x -> x.play(1, Edges.HIGH, 2));
        for (String steps : new String[] {Edges.RICH, "", "+>.<"}) {
            for (int times : new int[] {Edges.LOW, -60, -1, 0, 61, 62, 512, Edges.HIGH}) {
                Edges.refused(steps, times + " times", Edges.OUTSIDE, x -> x.play(times, 0, 0));
            }
            for (int seed : new int[] {Edges.LOW, Edges.LOW + 1, -65536, -2, -1}) {
                Edges.refused(steps, "seed " + seed, Edges.OUTSIDE, x -> x.play(1, seed, 0));
            }
            for (int what : new int[] {Edges.LOW, -2, -1, 3, 4, Edges.HIGH}) {
                Edges.refused(steps, "what " + what, Edges.OUTSIDE, x -> x.play(60, 0, what));
            }
        }
        for (int i = 0; i < 3; i++) {
            int what = i;
            Edges.refused("", "play(1, 0, " + i + ")", Edges.STATE, x -> x.play(1, 0, what));
            Edges.refused("+>.<", "play(60, 0, " + i + ")", Edges.STATE, x -> x.play(60, 0, what));
        }
    }

    private static void image() {
        Edges.sentence(25, "An IMAGE is kept (one; the latest): how many MOVES are kept.");
        FrogsChangeSides x = Edges.led("=>.<");
        Edges.due("of no move", x.image(), 0);
        x.move(0, 1);
        Edges.due("of one", x.image(), 1);
        x.move(2, 0);
        x.move(1, 2);
        Edges.due("the latest", x.restore(), 1);
        Edges.row(x, ".><");
        Edges.due("the first is gone", x.restore(), 1);
        FrogsChangeSides sixty = Edges.led(Edges.SIXTY);
        Edges.due("of sixty", sixty.image(), 60);
        FrogsChangeSides again = Edges.led("=>.< 01 !");
        again.back();
        Edges.due("of none again", again.image(), 0);
        again.move(2, 1);
        Edges.due("restored", again.restore(), 0);

        Edges.sentence(25, "STATE: there is no BROOK.");
        Edges.refused("", "image()", Edges.STATE, y -> y.image());
        Edges.refused("+>.<", "image()", Edges.STATE, y -> y.image());
        FrogsChangeSides none = Edges.led("+>.<");
        none.image();
        none.brook();
        Edges.due("none was kept", none.restore(), Edges.STATE);
    }

    private static void restore() {
        Edges.sentence(26, "It goes on from the IMAGE: how many MOVES are kept.");
        FrogsChangeSides x = Edges.led("=>>.<< 12 31 !");
        x.back();
        x.back();
        x.move(3, 2);
        Edges.due("two are kept", x.restore(), 2);
        Edges.alike("restore()", x, Edges.led("=>>.<< 12 31 !"));
        FrogsChangeSides later = Edges.led("=>>.<< 12 ! 31 43");
        Edges.due("one is kept", later.restore(), 1);
        Edges.alike("restore()", later, Edges.led("=>>.<< 12 !"));
        FrogsChangeSides on = Edges.led("=>.< ! 01");
        Edges.due("restored", on.restore(), 0);
        Edges.due("it goes on", on.move(2, 1), 1);
        Edges.due("restored again", on.restore(), 0);
        Edges.row(on, ">.<");

        Edges.sentence(26, "STATE: none was kept, or a BROOK was read since (of the same text, too).");
        Edges.refused("", "restore()", Edges.STATE, y -> y.restore());
        Edges.refused("=>.< 01 +x", "none was kept", Edges.STATE, y -> y.restore());
        Edges.refused("=>.< 01 ! =g..< 01", "another brook", Edges.STATE, y -> y.restore());
        Edges.refused("=>.< 01 ! =>.< 01", "a brook of the same text", Edges.STATE, y -> y.restore());
        FrogsChangeSides same = Edges.led("=>.< 01 ! =>.<");
        Edges.due("gone", same.restore(), Edges.STATE);
        Edges.due("a new one", same.image(), 0);
        Edges.due("is there", same.restore(), 0);
        FrogsChangeSides kept = Edges.led("=>.< 01 ! 20 +...");
        Edges.due("no brook was read", kept.brook(), Edges.STATE);
        Edges.due("so it is there", kept.restore(), 1);
    }

    private static void count() {
        Edges.sentence(27, "How many: 0 STONES, 1 FROGS, 2 MOVES that are kept, 3 free STONES, 4 whether ANY (1, 0), 5 BACK, "
            + "6 RING, 7 TWO, 8 letters of THE PAGE, 9 how often a BROOK was read.");
        counts("", 0, 0, 0, 0, 0, 0, 0, 0, 0, 0);
        counts("+abcdefghijklmn", 0, 0, 0, 0, 0, 0, 0, 0, 14, 0);
        counts("=>..", 3, 1, 0, 2, 0, 0, 0, 0, 0, 1);
        counts("=>><<gog", 7, 7, 0, 0, 0, 0, 0, 0, 0, 1);
        counts("=......o;a", 7, 1, 0, 6, 1, 0, 0, 0, 0, 1);
        counts("=>..;b", 3, 1, 0, 2, 0, 1, 0, 0, 0, 1);
        counts("=>..;r", 3, 1, 0, 2, 0, 0, 1, 0, 0, 1);
        counts("=>..;t", 3, 1, 0, 2, 0, 0, 0, 1, 0, 1);
        counts("=>..;abrt =>.< 01", 3, 2, 1, 1, 0, 0, 0, 0, 0, 2);
        counts(Edges.SIXTY, 3, 1, 60, 2, 0, 1, 0, 0, 2, 1);

        Edges.sentence(27, "OUTSIDE.");
        for (String steps : new String[] {"", Edges.RICH}) {
            for (int what : new int[] {Edges.LOW, -2, -1, 10, 11, 100, Edges.HIGH}) {
                Edges.refused(steps, "count(" + what + ")", Edges.OUTSIDE, x -> x.count(what));
            }
        }
    }

    private static void counts(String steps, int... told) {
        for (int i = 0; i < 10; i++) {
            int what = i;
            Edges.asked(steps, "count(" + i + ")", told[i], x -> x.count(what));
        }
    }

    /** The digest as the document tells it, without a bound, and only then brought into a long. */
    private static long digestOf(FrogsChangeSides x, String page) {
        List<Long> told = new ArrayList<>();
        for (int stone = 0; stone < x.count(0); stone++) {
            told.add((long) x.on(stone));
            told.add((long) x.frog(stone));
        }
        for (int frog = 0; frog < x.count(1); frog++) {
            for (int what = 0; what < 3; what++) {
                told.add((long) x.about(frog, what));
            }
        }
        told.add((long) x.moves());
        if (x.count(0) > 0) {
            for (int what = 0; what < 3; what++) {
                told.add((long) x.fewest(what));
            }
            told.addAll(List.of((long) x.ways(), (long) x.wrong(), (long) x.ends(), (long) x.soon()));
            if (x.count(5) == 0 && x.count(6) == 0) {
                told.addAll(List.of((long) x.wins(0), (long) x.wins(1)));
            }
        }
        for (char letter : page.toCharArray()) {
            told.add((long) letter);
        }
        for (int what = 0; what < 10; what++) {
            told.add((long) x.count(what));
        }
        BigInteger h = BigInteger.valueOf(613);
        for (long number : told) {
            h = h.multiply(BigInteger.valueOf(31)).add(BigInteger.valueOf(number));
        }
        return h.longValue();
    }

    private static void digests(String steps) {
        int at = steps.lastIndexOf('+');
        String page = at < 0 ? "" : steps.substring(at + 1);
        Edges.asked(steps, "digest()", digestOf(Edges.led(steps), page), x -> x.digest());
    }

    private static void digest() {
        Edges.sentence(28, "h is 613, then for each of these numbers, in order, 31 times h, and it (as longs, wrapping)");
        digests("");
        digests("=>..");
        digests("=>>>.<<<");
        digests("=>><<gog");
        digests(Edges.RICH);
        digests(Edges.SIXTY);
        digests("=>>.<< 12 01");

        Edges.sentence(28, "with a BROOK what fewest() tells ..; with neither BACK nor RING what wins() tells of 0 and 1");
        for (String signs : new String[] {"a", "b", "r", "t", "ab", "br", "at", "abrt"}) {
            digests("=g>..<;" + signs);
        }

        Edges.sentence(28, "letters of THE PAGE");
        digests("+x");
        digests("+abcdefghijklmn");
        digests("=>.< 01 +abcdefghijklmn");
        digests("=>.<;b +" + (char) 126 + (char) 1);
    }

    private static void manyBrooks() {
        Edges.sentence(27, "9 how often a BROOK was read (as often as 512 calls allow)");
        FrogsChangeSides x = new FrogsChangeSides();
        for (int times = 1; times <= 255; times++) {
            x.letters(Edges.word(times % 2 == 0 ? ">.<" : ">..<;t"));
            Edges.due("stones", x.brook(), times % 2 == 0 ? 3 : 4);
        }
        Edges.due("read", x.count(9), 255);
    }
}
