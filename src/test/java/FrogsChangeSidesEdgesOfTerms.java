/** The edges that the document's terms name, each sentence by itself, on the edge and just beyond it. */
public final class FrogsChangeSidesEdgesOfTerms {
    private static final String KINDS = ".><og";
    private static final String SIGNS = "abrt";

    public static void main(String[] args) {
        threeToSeven();
        lettersOfStones();
        oneFrogAtLeast();
        semicolon();
        signsInOrder();
        numbersOfFrogs();
        kinds();
        forth();
        beside();
        overOne();
        overTwo();
        whoDoesNot();
        ring();
        twoAreOne();
        goal();
        sixty();
        fewestAndWays();
        firstMove();
        wrong();
        stuck();
        comes();
        stoneMore();
        letOff();
        game();
        play();
        image();
        refusalsInOrder();
        changeNothing();
        withoutBrook();
        Edges.end();
    }

    private static String signsOf(int bits) {
        StringBuilder s = new StringBuilder(";");
        for (int i = 0; i < 4; i++) {
            if ((bits >> i & 1) == 1) {
                s.append(SIGNS.charAt(i));
            }
        }
        return s.toString();
    }

    /** The text is no brook, and to try it changes nothing, with a brook or without. */
    private static void noBrook(String text, int fault) {
        Edges.asked("+" + text, "fault() of " + text, fault, x -> x.fault());
        Edges.refused("+" + text, "brook() of " + text, Edges.STATE, x -> x.brook());
        Edges.refused("=>.<. 01 ! 20 +" + text, "brook() of " + text, Edges.STATE, x -> x.brook());
    }

    private static void isBrook(String text) {
        FrogsChangeSides x = Edges.led("+" + text);
        Edges.due("fault() of " + text, x.fault(), text.length());
        Edges.due("brook() of " + text, x.brook(), Edges.rowOf(text).length());
        Edges.row(x, Edges.rowOf(text));
        int semi = text.indexOf(';');
        for (int i = 0; i < 4; i++) {
            int has = semi >= 0 && text.indexOf(SIGNS.charAt(i), semi) >= 0 ? 1 : 0;
            Edges.due("sign " + SIGNS.charAt(i) + " of " + text, x.count(4 + i), has);
        }
    }

    private static void threeToSeven() {
        Edges.sentence(0, "three to seven STONES");
        for (String kind : new String[] {">", "<", "g", "o"}) {
            noBrook(kind, 1);
            noBrook(kind + ".", 2);
            isBrook(kind + "..");
            isBrook(kind + "......");
            noBrook(kind + ".......", 7);
            noBrook(kind + ".;a", 2);
            isBrook(kind + "..;a");
            isBrook(kind + "......;a");
            noBrook(kind + ".......;a", 7);
        }
        noBrook("", 0);
        noBrook(";a", 0);
        noBrook(">;a", 1);
        noBrook(">>>>>>>>>>>>>>", 7);

        Edges.sentence(0, "(numbered from 0)");
        Edges.due("the first of three", Edges.led("=>.<").on(0), 1);
        Edges.due("the last of three", Edges.led("=>.<").on(2), 2);
        Edges.due("the first of seven", Edges.led("=g.....<").on(0), 4);
        Edges.due("the last of seven", Edges.led("=g.....<").on(6), 2);
        Edges.refused("=>.<", "on(-1)", Edges.UNKNOWN, x -> x.on(-1));
        Edges.refused("=>.<", "on(3)", Edges.UNKNOWN, x -> x.on(3));
        Edges.refused("=g.....<", "on(-1)", Edges.UNKNOWN, x -> x.on(-1));
        Edges.refused("=g.....<", "on(7)", Edges.UNKNOWN, x -> x.on(7));
    }

    private static void lettersOfStones() {
        Edges.sentence(0, "\".\" free, \">\" a GREEN, \"<\" a BROWN, \"g\" an OLD, \"o\" a TOAD");
        for (int code = 1; code <= 126; code++) {
            char c = (char) code;
            for (int place = 0; place < 3; place++) {
                String text = ">.<".substring(0, place) + c + ">.<".substring(place + 1);
                FrogsChangeSides x = Edges.led("");
                x.letters(Edges.word(text));
                boolean kind = KINDS.indexOf(c) >= 0;
                Edges.due("fault() with " + code + " at " + place, x.fault(), kind ? 3 : place);
                Edges.due("brook() with " + code + " at " + place, x.brook(), kind ? 3 : Edges.STATE);
            }
        }
        FrogsChangeSides x = Edges.led("=.><go");
        int[] told = {Edges.NONE, 1, 2, 4, 3};
        for (int stone = 0; stone < 5; stone++) {
            Edges.due("on(" + stone + ")", x.on(stone), told[stone]);
        }
    }

    private static void oneFrogAtLeast() {
        Edges.sentence(0, "(one FROG at least)");
        for (int stones = 3; stones <= 7; stones++) {
            String none = ".".repeat(stones);
            noBrook(none, stones);
            noBrook(none + ";abrt", stones + 5);
            for (int place = 0; place < stones; place++) {
                for (char kind : "><og".toCharArray()) {
                    isBrook(none.substring(0, place) + kind + none.substring(place + 1));
                }
            }
        }
        isBrook(">>>>>>>");
        isBrook("ooo;t");
    }

    private static void semicolon() {
        Edges.sentence(0, "then perhaps \";\" and SIGNS");
        isBrook(">.<");
        isBrook(">.....<");
        for (int code = 1; code <= 126; code++) {
            char c = (char) code;
            FrogsChangeSides three = Edges.led("");
            three.letters(Edges.word(">.<" + c + "a"));
            boolean kind = KINDS.indexOf(c) >= 0;
            Edges.due("fault() with " + code + " behind three", three.fault(), kind ? 4 : c == ';' ? 5 : 3);
            Edges.due("brook() with " + code + " behind three", three.brook(), c == ';' ? 3 : Edges.STATE);
            FrogsChangeSides seven = Edges.led("+>.....<");
            seven.letters(Edges.word(c + "a"));
            Edges.due("fault() with " + code + " behind seven", seven.fault(), c == ';' ? 9 : 7);
            Edges.due("brook() with " + code + " behind seven", seven.brook(), c == ';' ? 7 : Edges.STATE);
        }
        noBrook(">.<;;a", 4);
        noBrook(">.<;a;b", 5);
        noBrook(">.<a", 3);
    }

    private static void signsInOrder() {
        Edges.sentence(0, "in this order, one at least: \"a\" (ANY), \"b\" (BACK), \"r\" (RING), \"t\" (TWO)");
        noBrook(">.<;", 4);
        noBrook(">.....<;", 8);
        for (int bits = 1; bits < 16; bits++) {
            isBrook(">.<" + signsOf(bits));
            isBrook(">.....<" + signsOf(bits));
        }
        everyRowOfSigns("");
        for (int code = 1; code <= 126; code++) {
            char c = (char) code;
            FrogsChangeSides x = Edges.led("+>.<;");
            x.letters(code);
            boolean sign = SIGNS.indexOf(c) >= 0;
            Edges.due("fault() with the sign " + code, x.fault(), sign ? 5 : 4);
            Edges.due("brook() with the sign " + code, x.brook(), sign ? 3 : Edges.STATE);
        }
        noBrook(">.<;abrtt", 8);
        noBrook(">.<;abrta", 8);
        noBrook(">.<;abrt.", 8);
        noBrook(">.....<;abrtt", 12);
    }

    /** All rows of up to five signs: only those that rise are signs. */
    private static void everyRowOfSigns(String ahead) {
        int fault = ahead.length();
        for (int i = ahead.length() - 1; i > 0; i--) {
            if (SIGNS.indexOf(ahead.charAt(i)) <= SIGNS.indexOf(ahead.charAt(i - 1))) {
                fault = i;
            }
        }
        if (!ahead.isEmpty()) {
            FrogsChangeSides x = Edges.led("+>.<;" + ahead);
            Edges.due("fault() of " + ahead, x.fault(), 4 + fault);
            Edges.due("brook() of " + ahead, x.brook(), fault == ahead.length() ? 3 : Edges.STATE);
        }
        for (int i = 0; i < 4 && ahead.length() < 5; i++) {
            everyRowOfSigns(ahead + SIGNS.charAt(i));
        }
    }

    private static void numbersOfFrogs() {
        Edges.sentence(0, "FROGS are numbered from the left");
        FrogsChangeSides x = Edges.led("=.>.<o.g");
        int[] frogs = {Edges.NONE, 0, Edges.NONE, 1, 2, Edges.NONE, 3};
        for (int stone = 0; stone < 7; stone++) {
            Edges.due("frog(" + stone + ")", x.frog(stone), frogs[stone]);
        }
        Edges.due("the first one's stone", x.about(0, 1), 1);
        Edges.due("the last one's stone", x.about(3, 1), 6);
        Edges.refused("=.>.<o.g", "about(4, 1)", Edges.UNKNOWN, y -> y.about(4, 1));
        Edges.refused("=.>.<o.g", "about(-1, 1)", Edges.UNKNOWN, y -> y.about(-1, 1));
        Edges.due("the seventh", Edges.led("=>><<gog").frog(6), 6);
        Edges.due("the seventh is the sixth from 0", Edges.led("=>><<gog").about(6, 0), 4);
        Edges.refused("=>><<gog", "about(7, 0)", Edges.UNKNOWN, y -> y.about(7, 0));
        FrogsChangeSides moved = Edges.led("=><. 02");
        Edges.due("the number goes along", moved.frog(2), 0);
        Edges.due("though another is on the left now", moved.frog(1), 1);
    }

    private static void kinds() {
        Edges.sentence(0, "of KINDS: 0 FROG, 1 GREEN, 2 BROWN, 3 TOAD, 4 OLD. All are FROGS; an OLD is GREEN, too.");
        String steps = "=><og";
        int[] told = {1, 2, 3, 4};
        for (int i = 0; i < 4; i++) {
            int frog = i;
            Edges.due("kind of " + i, Edges.led(steps).about(i, 0), told[i]);
            for (int j = 0; j <= 4; j++) {
                int kind = j;
                boolean such = j == 0 || j == told[i] || i == 3 && j == 1;
                Edges.asked(steps, "as(" + i + ", " + j + ")", such ? i : Edges.NONE, x -> x.as(frog, kind));
            }
            Edges.refused(steps, "as(" + i + ", -1)", Edges.OUTSIDE, x -> x.as(frog, -1));
            Edges.refused(steps, "as(" + i + ", 5)", Edges.OUTSIDE, x -> x.as(frog, 5));
        }
    }

    private static void forth() {
        Edges.sentence(0, "FORTH is to the right for GREENS, to the left for BROWNS");
        Edges.only(".>.", "12");
        Edges.only("..>", "");
        Edges.only(".<.", "10");
        Edges.only("<..", "");
        Edges.only(".g.", "12");
        Edges.only("..g", "");
        Edges.only(".....>.", "56");
        Edges.only("......>", "");

        Edges.sentence(0, "(by BACK also the other way)");
        Edges.only(".>.;b", "10 12");
        Edges.only(">..;b", "01");
        Edges.only("..>;b", "21");
        Edges.only("<..;b", "01");
        Edges.only("..<;b", "21");
        Edges.only("..g;b", "21");
        Edges.only(".<>;b", "10 20");
        Edges.only(".<>", "10");
        Edges.only("<>.;b", "02 12");
        Edges.only("<>.", "12");
    }

    private static void beside() {
        Edges.sentence(0, "to the STONE beside, if that is free");
        Edges.only(">..", "01");
        Edges.only(">o.", "");
        Edges.only(">.o", "01");
        Edges.only("..<", "21");
        Edges.only(".o<", "");
        Edges.only(">......", "01");
        Edges.only("g.o", "01");
        Edges.only("go.", "");
    }

    private static void overOne() {
        Edges.sentence(0, "over the one beside, if a FROG of the other colour stands there, to the free one behind");
        Edges.only("><.", "02");
        Edges.only("><o", "");
        Edges.only(".><", "20");
        Edges.only("o><", "");
        Edges.only("..><", "31");
        Edges.only("><..", "02");
        Edges.only(".><.", "13 20");
        Edges.only(">..<", "01 32");
        Edges.only(".g<", "20");
        Edges.only(">>.", "12");
        Edges.only(">g.", "12");
        Edges.only(".<<", "10");

        Edges.sentence(0, "a TOAD has none");
        Edges.only(">o.", "");
        Edges.only(".o<", "");
        Edges.only(">o.;b", "");
        Edges.only(">oo.;t", "");

        Edges.sentence(0, "by ANY a FROG of any kind");
        Edges.only(">o.;a", "02");
        Edges.only(".o<;a", "20");
        Edges.only(">>.;a", "02 12");
        Edges.only(">g.;a", "02 12");
        Edges.only(".<<;a", "10 20");
        Edges.only("><.;a", "02");
        Edges.only(">..;a", "01");
        Edges.only(">oo.;a", "");
    }

    private static void overTwo() {
        Edges.sentence(0, "by TWO also over two such to the free one behind these");
        Edges.only("><<.", "");
        Edges.only("><<.;t", "03");
        Edges.only("><<<.;t", "");
        Edges.only("><<;t", "");
        Edges.only("><<o;t", "");
        Edges.only("><.;t", "02");
        Edges.only("><.<;t", "02 32");
        Edges.only("><>.;t", "23");
        Edges.only("><o.;t", "");
        Edges.only("><o.;at", "03");
        Edges.only(">>>.;at", "03 13 23");
        Edges.only(">>>>.;at", "14 24 34");
        Edges.only(".>><;t", "30");
        Edges.only(".>>><;t", "");
        Edges.only(".g><;t", "30");
        Edges.only(".o><;t", "");
        Edges.only(">>..", "12");
        Edges.only(">.<<.;t", "01 21");
    }

    private static void whoDoesNot() {
        Edges.sentence(0, "An OLD never leaps");
        Edges.only("g<.", "");
        Edges.only("g<.;abt", "12");
        Edges.only("g<.;abrt", "02 12");
        Edges.only("g<<.;at", "");
        Edges.only("g..;abrt", "01 02");
        Edges.only(".<g;b", "10");
        Edges.only("og.;a", "12");

        Edges.sentence(0, "a TOAD does not move");
        Edges.only(".o.", "");
        Edges.only("o..;abrt", "");
        Edges.only("..o;abrt", "");
        Edges.only("ooo.ooo;abrt", "");
    }

    private static void ring() {
        Edges.sentence(0, "In a RING the first STONE is beside the last one.");
        for (int stones = 3; stones <= 7; stones++) {
            String free = ".".repeat(stones - 1);
            int last = stones - 1;
            Edges.only(free + ">;r", last + "0");
            Edges.only(free + ">", "");
            Edges.only("<" + free + ";r", "0" + last);
            Edges.only("<" + free, "");
            Edges.only(free + "g;r", last + "0");
            Edges.only(free + "o;r", "");
        }
        Edges.only(".....><;r", "50 64");
        Edges.only(".....><", "64");
        Edges.only("<.....>;r", "05 61");
        Edges.only("<.....>", "");
        Edges.only("><.....;r", "02 16");
        Edges.only("<<....>;rt", "05 62");
        Edges.only("<<....>;r", "05");
        Edges.only("<....>>;rt", "04 61");
        Edges.only("<>.;r", "02 12");
        Edges.only("><.;r", "02 12");
        Edges.only("><<;rt", "");
        Edges.only(">>>;art", "");
        Edges.only("<....>.;r", "06 56");
        Edges.only("......>;br", "60 65");
        Edges.only(">......;br", "01 06");
    }

    private static void twoAreOne() {
        Edges.sentence(0, "Two MOVES of a FROG to the same STONE are one.");
        Edges.only(">.o;abr", "01");
        Edges.only(">.<;br", "01 21");
        Edges.only(">..;br", "01 02");
        Edges.only(">.<<;brt", "01 21 31");
        Edges.only("><.<;br", "02 12 32");
        Edges.only("><.<<;brt", "02 12 32");
        Edges.only("><<.<<;brt", "03 23 43");
        Edges.due("ways of them", Edges.led("=>.<;br").ways(), 2);
        Edges.due("fewest of them", Edges.led("=>.<;br").fewest(0), 3);
    }

    private static void goal() {
        Edges.sentence(0, "THE GOAL is THE ROW as it was read, turned round");
        Edges.due("the same from both sides", Edges.led("=>.>").fewest(0), 0);
        Edges.due("not the same", Edges.led("=>..").fewest(0), 2);
        Edges.due("as it was read, not as it is", Edges.led("=>.. 01").fewest(0), 1);
        Edges.due("come to it", Edges.led("=>.. 01 12").fewest(0), 0);
        Edges.due("four stones", Edges.led("=>..<").fewest(0), 5);

        Edges.sentence(0, "(what stood on the first STONE stands on the last one, and so on; FROGS of one KIND are alike)");
        Edges.due("frog 0 is leapt to the end", Edges.led("=>>.;a 02").fewest(0), 0);
        Edges.due("or frog 1 stepped there", Edges.led("=>>.;a 12 01").fewest(0), 0);
        Edges.due("by one leap", Edges.led("=>>.;a").fewest(0), 1);
        Edges.due("two OLD ones", Edges.led("=gg.").fewest(0), 2);
        Edges.due("a GREEN and an OLD are not alike", Edges.led("=g>. 12 01").fewest(0), Edges.NONE);
        Edges.due("they stand as they stood", Edges.led("=>g.").fewest(0), Edges.NONE);
        Edges.due("unless one is leapt over", Edges.led("=>g.;a").fewest(0), 1);
        Edges.due("or goes round", Edges.led("=>.g;r").fewest(0), 3);
        Edges.due("toads as they stood", Edges.led("=o.o").fewest(0), 0);
        Edges.due("toads not as they stood", Edges.led("=o..").fewest(0), Edges.NONE);
    }

    private static void sixty() {
        Edges.sentence(0, "What has been moved is kept (60 MOVES at most).");
        FrogsChangeSides x = Edges.led("=>..;b " + "01 10 ".repeat(29) + "01");
        Edges.due("59 are kept", x.count(2), 59);
        Edges.due("the 60th", x.move(1, 2), 60);
        Edges.due("the 61st", x.move(2, 1), Edges.FULL);
        Edges.row(x, "..>");
        Edges.due("60 are kept", x.count(2), 60);
        Edges.due("the 60th is taken back", x.back(), 1);
        Edges.due("another 60th", x.move(1, 0), 60);
        Edges.refused(Edges.SIXTY, "the 61st move", Edges.FULL, y -> y.move(0, 1));
        Edges.asked(Edges.SIXTY, "it still MAY be", 1, y -> y.may(0, 1));
        Edges.asked(Edges.SIXTY, "it is still counted", 1, y -> y.moves());
        Edges.asked(Edges.SIXTY, "the goal is as far as it was", 2, y -> y.fewest(0));
        Edges.asked(Edges.SIXTY, "what would be played is not kept", 60, y -> y.play(60, 7, 0));
        Edges.asked(Edges.SIXTY, "all by one frog", 60, y -> y.about(0, 2));
        FrogsChangeSides all = Edges.led(Edges.SIXTY);
        for (int i = 59; i >= 0; i--) {
            Edges.due("back to " + i, all.back(), i % 2);
            Edges.due("kept", all.count(2), i);
        }
        Edges.due("none is kept", all.back(), Edges.STATE);
    }

    private static void fewestAndWays() {
        Edges.sentence(0, "FEWEST: the least number of MOVES from now to THE GOAL (0: it is so)");
        Edges.asked("=.>.", "it is so as read", 0, x -> x.fewest(0));
        Edges.asked("=ooo", "it is so and stuck", 0, x -> x.fewest(0));
        Edges.asked("=>.<", "by three", 3, x -> x.fewest(0));
        Edges.asked("=>.< 01 20", "by one", 1, x -> x.fewest(0));
        Edges.asked("=>.< 01 20 12", "it is so", 0, x -> x.fewest(0));
        Edges.asked("=>>>.<<<", "by fifteen", 15, x -> x.fewest(0));
        Edges.asked("=..>", "never", Edges.NONE, x -> x.fewest(0));
        Edges.asked("=.>. 12", "no more", Edges.NONE, x -> x.fewest(0));
        Edges.asked("=.>.;b 12", "from beyond it", 1, x -> x.fewest(0));
        Edges.asked("=.>.;r 12", "once round", 2, x -> x.fewest(0));

        Edges.sentence(0, "WAYS: how many such rows there are");
        Edges.asked("=.>.", "it is so: one of no moves", 1, x -> x.ways());
        Edges.asked("=..>", "never: none", 0, x -> x.ways());
        Edges.asked("=>..", "one", 1, x -> x.ways());
        Edges.asked("=>.<", "two", 2, x -> x.ways());
        Edges.asked("=>..o>..", "two times two moves in any order", 6, x -> x.ways());
        Edges.asked("=>..o>.. 01", "one of them made", 3, x -> x.ways());
        Edges.asked("=.>....;br", "both ways round", 2, x -> x.ways());
        Edges.asked("=.>. 12", "no more", 0, x -> x.ways());
    }

    private static void first(String steps, int many, int from, int to) {
        Edges.asked(steps, "fewest(0)", many, x -> x.fewest(0));
        Edges.asked(steps, "fewest(1)", from, x -> x.fewest(1));
        Edges.asked(steps, "fewest(2)", to, x -> x.fewest(2));
    }

    private static void firstMove() {
        Edges.sentence(0, "the first MOVE: of all that begin such a row of MOVES that from the least STONE, then to the least");
        first("=>.<", 3, 0, 1);
        first("=..g.<", 3, 4, 3);
        first("=g.<", 3, 0, 1);
        first("=.>....;br", 3, 1, 0);
        first("=.>...;b", 2, 1, 2);
        first("=...>.;b", 2, 3, 2);
        first("=..>;r", 1, 2, 0);
        first("=......>;b", 6, 6, 5);
        first("=......>;br", 1, 6, 0);
        first("=.>.", 0, Edges.NONE, Edges.NONE);
        first("=..>", Edges.NONE, Edges.NONE, Edges.NONE);
    }

    private static void wrong() {
        Edges.sentence(0, "WRONG: the first MOVE of those kept (from 1) ahead of which THE GOAL could still be come to, "
            + "and behind which it could not");
        Edges.asked("=>.<", "nothing is kept", Edges.NONE, x -> x.wrong());
        Edges.asked("=>.< 01 20 12", "none was wrong", Edges.NONE, x -> x.wrong());
        Edges.asked("=g.< 21", "the first", 1, x -> x.wrong());
        Edges.asked("=>>.<< 12 01", "the second, the last", 2, x -> x.wrong());
        Edges.asked("=>.<. 01 20", "the second", 2, x -> x.wrong());
        Edges.asked("=>.<. 01 20 12 23", "the second still", 2, x -> x.wrong());
        Edges.asked("=.>. 12", "away from the goal itself", 1, x -> x.wrong());
        Edges.asked("=o>.. 12", "it never could", Edges.NONE, x -> x.wrong());
        Edges.asked("=.>.;b 12", "it can go back", Edges.NONE, x -> x.wrong());
        String round = "=.<g>;r 10 31 23 " + "02 20 ".repeat(28);
        Edges.asked(round, "none of 59", Edges.NONE, x -> x.wrong());
        Edges.asked(round + "12", "the 60th", 60, x -> x.wrong());
        FrogsChangeSides x = Edges.led("=g.< 21");
        x.back();
        Edges.due("the wrong one is taken back", x.wrong(), Edges.NONE);
    }

    private static void ends(String steps, int ends, int soon) {
        Edges.asked(steps, "ends()", ends, x -> x.ends());
        Edges.asked(steps, "soon()", soon, x -> x.soon());
    }

    private static void stuck() {
        Edges.sentence(0, "STUCK is a ROW in which nothing MAY be moved. ENDS: how many STUCK ROWS can be come to from now "
            + "(as it is, too). SOON: by how few MOVES to one of them.");
        ends("=..>", 1, 0);
        ends("=.>.", 1, 1);
        ends("=>>>", 1, 0);
        ends("=>>>;abrt", 1, 0);
        ends("=ooo", 1, 0);
        ends("=..>;b", 0, Edges.NONE);
        ends("=..>;r", 0, Edges.NONE);
        ends("=g.<", 2, 1);
        ends("=g.< 21", 1, 0);
        ends("=g.< 01", 1, 2);
        ends("=>>.. 12", 1, 3);
        ends("=>>.;a", 1, 1);
    }

    private static void comes() {
        Edges.sentence(0, "COMES: by how few MOVES THE ROW on THE PAGE (as many STONES, no SIGNS; one without a FROG is a ROW "
            + "here, too) can come of that as it is now.");
        Edges.asked("=>.< +>.<", "as it is", 0, x -> x.comes());
        Edges.asked("=>.< +.><", "by one", 1, x -> x.comes());
        Edges.asked("=>.< +<.>", "by three", 3, x -> x.comes());
        Edges.asked("=>.< 01 +<.>", "of that as it is now", 2, x -> x.comes());
        Edges.asked("=>.< 01 +>.<", "not of that as it was", Edges.NONE, x -> x.comes());
        Edges.asked("=>.< +...", "one without a frog", Edges.NONE, x -> x.comes());
        Edges.asked("=>.< +ooo", "other frogs", Edges.NONE, x -> x.comes());
        Edges.asked("=>.....< +.......", "seven without a frog", Edges.NONE, x -> x.comes());
        Edges.asked("=>.. +g..", "an OLD for a GREEN", Edges.NONE, x -> x.comes());
        Edges.asked("=>..;r +>..", "as it is, in a ring", 0, x -> x.comes());
        Edges.refused("=>.<", "an empty page", Edges.STATE, x -> x.comes());
        Edges.refused("=>.< +>.", "a stone less", Edges.STATE, x -> x.comes());
        Edges.refused("=>.< +>.<.", "a stone more", Edges.STATE, x -> x.comes());
        Edges.refused("=>.....< +>......<", "eight stones", Edges.STATE, x -> x.comes());
        Edges.refused("=>.< +>.<;", "a semicolon", Edges.STATE, x -> x.comes());
        Edges.refused("=>.<;a +>.<;a", "signs", Edges.STATE, x -> x.comes());
        Edges.refused("=>.< +>.;", "a semicolon for a stone", Edges.STATE, x -> x.comes());
        Edges.refused("=>.< +>.a", "a sign for a stone", Edges.STATE, x -> x.comes());
    }

    private static void best(String steps, int place, int fewest) {
        Edges.asked(steps, "more(0)", place, x -> x.more(0));
        Edges.asked(steps, "more(1)", fewest, x -> x.more(1));
    }

    private static void stoneMore() {
        Edges.sentence(0, "STONE MORE: the place (0: ahead of the first one, ..) where one free STONE more makes FEWEST least; "
            + "of like ones the least");
        best("=oo.", 0, 0);
        best("=.oo", 3, 0);
        best("=o.o", 1, 0);
        best("=>.<", 0, 3);
        best("=>><", 3, 3);
        best("=>>>", 2, 1);
        best("=o..", Edges.NONE, Edges.NONE);
        best("=.....>;b", 6, 4);
        best("=.>....", 0, 2);

        Edges.sentence(0, "in THE ROW as it was read (from there to that ROW turned round)");
        best("=>.< 01", 0, 3);
        best("=.>. 12", 2, 1);
        best("=>.. 01 12", 0, 1);
    }

    private static void off(String steps, int frog, int fewest) {
        Edges.asked(steps, "off(0)", frog, x -> x.off(0));
        Edges.asked(steps, "off(1)", fewest, x -> x.off(1));
    }

    private static void letOff() {
        Edges.sentence(0, "LET OFF: likewise the FROG instead of whom a free STONE does so.");
        off("=>.<", 0, 2);
        off("=..>", 0, 0);
        off("=.>o", 1, 0);
        off("=o.o", Edges.NONE, Edges.NONE);
        off("=oo.", 0, 0);
        off("=.oo", 1, 0);
        off("=ooo", 1, 0);
        off("=>>>>>>>", 3, 0);
        off("=ooooooo", 3, 0);
        off("=>.< 01 20", 0, 2);
    }

    private static void game() {
        Edges.sentence(0, "A GAME (neither BACK nor RING)");
        Edges.asked("=>.<", "no sign", 1, x -> x.wins(0));
        Edges.asked("=>.<;a", "ANY", 1, x -> x.wins(0));
        Edges.asked("=>.<;t", "TWO", 1, x -> x.wins(0));
        Edges.asked("=>.<;at", "both", 1, x -> x.wins(0));
        for (String signs : new String[] {"b", "r", "br", "ab", "ar", "bt", "rt", "abr", "abt", "art", "brt", "abrt"}) {
            Edges.refused("=>.<;" + signs, "wins(0) with " + signs, Edges.STATE, x -> x.wins(0));
            Edges.refused("=>.<;" + signs, "by(0, 0) with " + signs, Edges.STATE, x -> x.by(0, 0));
        }

        Edges.sentence(0, "one moves GREENS and OLD ones (side 0), the other one BROWNS (side 1), in turn; who can't loses");
        for (String mine : new String[] {">..", "g..", ">>.", "g>."}) {
            Edges.asked("=" + mine, "side 0 of " + mine, 1, x -> x.wins(0));
            Edges.asked("=" + mine, "side 1 of " + mine, 0, x -> x.wins(1));
        }
        Edges.asked("=..<", "side 0 of a brown", 0, x -> x.wins(0));
        Edges.asked("=..<", "side 1 of a brown", 1, x -> x.wins(1));
        for (int i = 0; i < 2; i++) {
            int side = i;
            Edges.asked("=..o", "a toad is nobody's, side " + i, 0, x -> x.wins(side));
            Edges.asked("=<.>", "neither can, side " + i, 0, x -> x.wins(side));
            Edges.asked("=>.<", "who moves now, side " + i, 1, x -> x.wins(side));
            Edges.asked("=>..<", "who moves second, side " + i, 0, x -> x.wins(side));
        }

        Edges.sentence(0, "BY which MOVE: the first (by the STONE from which, then to which) by which it has.");
        Edges.asked("=>.o>.<", "not the first that MAY be, from", 3, x -> x.by(0, 0));
        Edges.asked("=>.o>.<", "not the first that MAY be, to", 4, x -> x.by(0, 1));
        Edges.asked("=>.o>.", "the first of two, from", 0, x -> x.by(0, 0));
        Edges.asked("=>.o>.", "the first of two, to", 1, x -> x.by(0, 1));
        Edges.asked("=.<o.<", "the first of two, from", 1, x -> x.by(1, 0));
        Edges.asked("=.<o.<", "the first of two, to", 0, x -> x.by(1, 1));
        Edges.asked("=>..<", "none", Edges.NONE, x -> x.by(0, 0));
        Edges.asked("=>..<", "none", Edges.NONE, x -> x.by(0, 1));
    }

    private static void play() {
        Edges.sentence(0, "PLAY by a SEED, as it would be: so many times a MOVE of those that MAY be");
        Edges.asked("=>..;r", "once", 1, x -> x.play(1, 0, 0));
        Edges.asked("=>..;r", "twice", 2, x -> x.play(2, 0, 0));
        Edges.asked("=>..;r", "59 times", 59, x -> x.play(59, 0, 0));
        Edges.asked("=>..;r", "60 times", 60, x -> x.play(60, 0, 0));

        Edges.sentence(0, "it ends, if there is none");
        Edges.asked("=..>", "at once", 0, x -> x.play(60, 9, 0));
        Edges.asked("=..>", "no seed is drawn", 9, x -> x.play(60, 9, 2));
        Edges.asked("=.>.", "behind one", 1, x -> x.play(60, 0, 0));
        Edges.asked("=.>.", "one seed is drawn", 12345, x -> x.play(60, 0, 2));
        Edges.asked("=>..", "behind two", 2, x -> x.play(60, 0, 0));

        Edges.sentence(0, "the next SEED each time: 1103515245 times it and 12345, its rest by 2 to the 31");
        Edges.asked("=>..", "of 0", 12345, x -> x.play(1, 0, 2));
        Edges.asked("=>..", "of 1", 1103527590, x -> x.play(1, 1, 2));
        Edges.asked("=>..", "of 2, above 2 to the 31", 59559187, x -> x.play(1, 2, 2));
        Edges.asked("=>..", "of the greatest", 1043980748, x -> x.play(1, Edges.HIGH, 2));
        Edges.asked("=>..;r", "again and again", lastSeed(Edges.HIGH, 60), x -> x.play(60, Edges.HIGH, 2));

        Edges.sentence(0, "then that by 65536 (rounded down), its rest");
        for (int seed = 0; seed < 64; seed++) {
            int given = seed;
            int goal = lastSeed(seed, 1) / 65536 % 2 == 0 ? 1 : 0;
            Edges.asked("=g.<", "goal by " + seed, goal, x -> x.play(3, given, 1));
            Edges.asked("=g.<", "moves by " + seed, goal == 1 ? 3 : 1, x -> x.play(60, given, 0));
        }
    }

    private static int lastSeed(int seed, int times) {
        java.math.BigInteger s = java.math.BigInteger.valueOf(seed);
        for (int i = 0; i < times; i++) {
            s = s.multiply(java.math.BigInteger.valueOf(1103515245)).add(java.math.BigInteger.valueOf(12345));
            s = s.mod(java.math.BigInteger.TWO.pow(31));
        }
        return s.intValueExact();
    }

    private static void image() {
        Edges.sentence(0, "An IMAGE keeps THE ROW, what has been moved.");
        FrogsChangeSides x = Edges.led(Edges.RICH);
        Edges.due("restore", x.restore(), 1);
        Edges.row(x, ">.><<");
        Edges.due("who was moved", x.about(1, 2), 1);
        Edges.due("who was moved later", x.about(2, 2), 0);
        Edges.due("the page is not in it", x.count(8), 5);
        Edges.due("from where", x.back(), 1);
        Edges.due("no more is kept", x.back(), Edges.STATE);
        FrogsChangeSides y = Edges.led(Edges.SIXTY);
        Edges.due("back", y.back(), 1);
        Edges.due("restore of sixty", y.restore(), 60);
        Edges.due("FULL again", y.move(0, 1), Edges.FULL);
        Edges.due("from where", y.back(), 1);
    }

    private static void refusalsInOrder() {
        Edges.sentence(0, "Refusals, of several the first as told by each call");
        String full = "=>.< +>.<>.<>.<>.<>.";
        Edges.refused(full, "letters: OUTSIDE, FULL", Edges.OUTSIDE, x -> x.letters(127));
        Edges.refused(full, "letters: FULL", Edges.FULL, x -> x.letters(126));
        Edges.refused(Edges.RICH, "about: UNKNOWN, OUTSIDE", Edges.UNKNOWN, x -> x.about(4, 3));
        Edges.refused(Edges.RICH, "about: OUTSIDE", Edges.OUTSIDE, x -> x.about(3, 3));
        Edges.refused(Edges.RICH, "as: UNKNOWN, OUTSIDE", Edges.UNKNOWN, x -> x.as(4, 5));
        Edges.refused(Edges.RICH, "as: OUTSIDE", Edges.OUTSIDE, x -> x.as(3, 5));
        Edges.refused(Edges.SIXTY, "move: UNKNOWN, STATE, FULL", Edges.UNKNOWN, x -> x.move(0, 3));
        Edges.refused(Edges.SIXTY, "move: UNKNOWN by from", Edges.UNKNOWN, x -> x.move(-1, 1));
        Edges.refused(Edges.SIXTY, "move: STATE, FULL", Edges.STATE, x -> x.move(0, 2));
        Edges.refused(Edges.SIXTY, "move: FULL", Edges.FULL, x -> x.move(0, 1));
        Edges.refused("+>.<", "fewest: OUTSIDE, STATE", Edges.OUTSIDE, x -> x.fewest(3));
        Edges.refused("+>.<", "fewest: STATE", Edges.STATE, x -> x.fewest(2));
        Edges.refused("=>>>.<<<", "more: OUTSIDE, STATE", Edges.OUTSIDE, x -> x.more(2));
        Edges.refused("=>>>.<<<", "more: STATE", Edges.STATE, x -> x.more(1));
        Edges.refused("+>.<", "off: OUTSIDE, STATE", Edges.OUTSIDE, x -> x.off(2));
        Edges.refused("+>.<", "off: STATE", Edges.STATE, x -> x.off(1));
        Edges.refused("=>.<;b", "wins: OUTSIDE, STATE", Edges.OUTSIDE, x -> x.wins(2));
        Edges.refused("=>.<;b", "wins: STATE", Edges.STATE, x -> x.wins(1));
        Edges.refused("=>.<;r", "by: OUTSIDE by side, STATE", Edges.OUTSIDE, x -> x.by(2, 0));
        Edges.refused("=>.<;r", "by: OUTSIDE by what, STATE", Edges.OUTSIDE, x -> x.by(0, 2));
        Edges.refused("=>.<;r", "by: STATE", Edges.STATE, x -> x.by(1, 1));
        Edges.refused("+>.<", "play: OUTSIDE by times, STATE", Edges.OUTSIDE, x -> x.play(61, 0, 0));
        Edges.refused("+>.<", "play: OUTSIDE by seed, STATE", Edges.OUTSIDE, x -> x.play(60, -1, 0));
        Edges.refused("+>.<", "play: OUTSIDE by what, STATE", Edges.OUTSIDE, x -> x.play(60, 0, 3));
        Edges.refused("+>.<", "play: STATE", Edges.STATE, x -> x.play(60, 0, 2));
    }

    /** Whatever is refused, and whatever is but a question, in many states and with many numbers. */
    private static void changeNothing() {
        Edges.sentence(0, "they change nothing");
        String[] states = {"", "+>.<", "+abcdefghijklmn", "=>>>.<<<", Edges.RICH, Edges.SIXTY, Edges.STUCK, Edges.ROUND,
            "=>.< 01 ! 20 +abcdefghijklmn", "=>.<. ! 01 +.<.>", "=>..;r 01 12 20 ! 01 +>.<;a",
            "=>.< 01 ! ~ +x", "=>.< 01 20 +x"};
        for (String steps : states) {
            nobodyChanges(steps);
            for (int a : new int[] {Edges.LOW, -1, 0, 1, 2, 3, 6, 7, 10, 61, Edges.HIGH}) {
                oneNumberChanges(steps, a);
                for (int b : new int[] {-1, 0, 1, 2, 5, 7, Edges.HIGH}) {
                    twoNumbersChange(steps, a, b);
                }
            }
            for (long w : new long[] {127, 1L << 8, -1L, Edges.word("abcdefgh"), Edges.word(">"), 128L << 56 | Edges.word(">")}) {
                ifRefused(steps, "letters(" + w + ")", x -> x.letters(w));
            }
        }
    }

    private static void ifRefused(String steps, String what, Edges.Call call) {
        if (call.on(Edges.led(steps)) <= Edges.UNKNOWN) {
            Edges.unchanged(steps, what, call);
        }
    }

    private static void nobodyChanges(String steps) {
        Edges.unchanged(steps, "fault()", x -> x.fault());
        Edges.unchanged(steps, "moves()", x -> x.moves());
        Edges.unchanged(steps, "ways()", x -> x.ways());
        Edges.unchanged(steps, "wrong()", x -> x.wrong());
        Edges.unchanged(steps, "ends()", x -> x.ends());
        Edges.unchanged(steps, "soon()", x -> x.soon());
        Edges.unchanged(steps, "comes()", x -> x.comes());
        Edges.unchanged(steps, "digest()", x -> x.digest());
        ifRefused(steps, "brook()", x -> x.brook());
        ifRefused(steps, "back()", x -> x.back());
        ifRefused(steps, "image()", x -> x.image());
        ifRefused(steps, "restore()", x -> x.restore());
    }

    private static void oneNumberChanges(String steps, int a) {
        Edges.unchanged(steps, "on(" + a + ")", x -> x.on(a));
        Edges.unchanged(steps, "frog(" + a + ")", x -> x.frog(a));
        Edges.unchanged(steps, "fewest(" + a + ")", x -> x.fewest(a));
        Edges.unchanged(steps, "more(" + a + ")", x -> x.more(a));
        Edges.unchanged(steps, "off(" + a + ")", x -> x.off(a));
        Edges.unchanged(steps, "wins(" + a + ")", x -> x.wins(a));
        Edges.unchanged(steps, "count(" + a + ")", x -> x.count(a));
        Edges.unchanged(steps, "play(" + a + ", 0, 0)", x -> x.play(a, 0, 0));
        Edges.unchanged(steps, "play(60, " + a + ", 1)", x -> x.play(60, a, 1));
        Edges.unchanged(steps, "play(1, 7, " + a + ")", x -> x.play(1, 7, a));
    }

    private static void twoNumbersChange(String steps, int a, int b) {
        String numbers = "(" + a + ", " + b + ")";
        Edges.unchanged(steps, "about" + numbers, x -> x.about(a, b));
        Edges.unchanged(steps, "as" + numbers, x -> x.as(a, b));
        Edges.unchanged(steps, "may" + numbers, x -> x.may(a, b));
        Edges.unchanged(steps, "by" + numbers, x -> x.by(a, b));
        ifRefused(steps, "move" + numbers, x -> x.move(a, b));
    }

    private static void withoutBrook() {
        Edges.sentence(0, "Without a BROOK there are no STONES.");
        for (String steps : new String[] {"", "+>.<"}) {
            for (int i = -1; i <= 7; i++) {
                int stone = i;
                Edges.refused(steps, "on(" + i + ")", Edges.UNKNOWN, x -> x.on(stone));
                Edges.refused(steps, "frog(" + i + ")", Edges.UNKNOWN, x -> x.frog(stone));
                Edges.refused(steps, "may(" + i + ", 0)", Edges.UNKNOWN, x -> x.may(stone, 0));
                Edges.refused(steps, "move(0, " + i + ")", Edges.UNKNOWN, x -> x.move(0, stone));
            }
            Edges.asked(steps, "count(0)", 0, x -> x.count(0));
            Edges.asked(steps, "count(1)", 0, x -> x.count(1));
            Edges.asked(steps, "count(3)", 0, x -> x.count(3));
            Edges.asked(steps, "moves()", 0, x -> x.moves());
        }
    }
}
