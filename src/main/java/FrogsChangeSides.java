import java.util.Arrays;

/**
 * Frogs that change sides on a brook of three to seven stones; what each call answers is told in DOC.md.
 *
 * A row is held as one int, three bits a stone: 0 for a free one, else the KIND that stands there.
 * A move is held as 8 * from + to, so that a smaller number is the one that the document counts first,
 * and all moves of a row are the bits of one long.
 */
public final class FrogsChangeSides {
    public static final int NONE = -1, UNKNOWN = -101, OUTSIDE = -102, STATE = -103, FULL = -104;

    private static final int FREE = 0, GREEN = 1, BROWN = 2, TOAD = 3, OLD = 4;
    private static final int ANY = 0, BACK = 1, RING = 2, TWO = 3;
    private static final int FEWEST_STONES = 3, MOST_STONES = 7;
    private static final int MOST_LETTERS = 14, MOST_KEPT = 60;
    private static final int ONWARD = 1, BACKWARD = -1;
    /** Above 630, the most rows that the frogs of one brook can stand in: 7! / (2! 2! 2! 1!), as toads stay. */
    private static final int MOST_ROWS = 640;
    /** A power of two, so that a mask keeps a slot inside. */
    private static final int SLOTS = 1024;
    /** Above 42, which is seven frogs that go six stones forth each. */
    private static final int DEEPEST_GAME = 64;

    private final Page page = new Page();
    private final Rules rules = new Rules();
    private final Rules otherRules = new Rules();
    private final Position now = new Position();
    private final Position kept = new Position();
    private final Search toGoal = new Search();
    private final Search afresh = new Search();
    private final Game game = new Game();
    private int readRow;
    private int goalRow;
    private int frogs;
    private int timesRead;
    private boolean hasImage;

    public FrogsChangeSides() {
    }

    // ---- the brook

    public int letters(long w) {
        int more = Page.lettersIn(w);
        if (more == NONE) {
            return OUTSIDE;
        }
        if (page.size + more > MOST_LETTERS) {
            return FULL;
        }
        page.append(w, more);
        return page.size;
    }

    public int blank() {
        int had = page.size;
        page.size = 0;
        return had;
    }

    public int fault() {
        return page.firstFault();
    }

    public int brook() {
        if (!page.tellsBrook()) {
            return STATE;
        }
        rules.set(page.leadingStones(), page.signs());
        readRow = page.row();
        goalRow = Rows.turned(readRow, rules.stones);
        frogs = rules.stones - Rows.freeStones(readRow, rules.stones);
        now.begin(readRow, Rows.numbered(readRow));
        toGoal.spread(rules, goalRow, BACKWARD, NONE);
        game.forget();
        hasImage = false;
        timesRead++;
        page.size = 0;
        return rules.stones;
    }

    public int on(int stone) {
        if (!isStone(stone)) {
            return UNKNOWN;
        }
        int kind = Rows.at(now.row, stone);
        return kind == FREE ? NONE : kind;
    }

    public int frog(int stone) {
        if (!isStone(stone)) {
            return UNKNOWN;
        }
        return Rows.at(now.numbers, stone) - 1;
    }

    public int about(int frog, int what) {
        if (!isFrog(frog)) {
            return UNKNOWN;
        }
        switch (what) {
            case 0:
                return kindOfFrog(frog);
            case 1:
                return now.stoneOf(frog);
            case 2:
                return now.timesMoved(frog);
            default:
                return OUTSIDE;
        }
    }

    public int as(int frog, int kind) {
        if (!isFrog(frog)) {
            return UNKNOWN;
        }
        if (kind < 0 || kind > OLD) {
            return OUTSIDE;
        }
        int own = kindOfFrog(frog);
        boolean such = kind == 0 || kind == own || (kind == GREEN && own == OLD);
        return such ? frog : NONE;
    }

    // ---- moves

    public int may(int from, int to) {
        if (!isStone(from) || !isStone(to)) {
            return UNKNOWN;
        }
        return rules.allows(now.row, from, to) ? 1 : 0;
    }

    public int moves() {
        return Long.bitCount(rules.allMoves(now.row, ONWARD));
    }

    public int move(int from, int to) {
        if (!isStone(from) || !isStone(to)) {
            return UNKNOWN;
        }
        if (!rules.allows(now.row, from, to)) {
            return STATE;
        }
        if (now.size >= MOST_KEPT) {
            return FULL;
        }
        now.go(from, to);
        return now.size;
    }

    public int back() {
        return now.size == 0 ? STATE : now.takeBack();
    }

    // ---- change sides

    public int fewest(int what) {
        if (what < 0 || what > 2) {
            return OUTSIDE;
        }
        if (!hasBrook()) {
            return STATE;
        }
        if (what == 0) {
            return toGoal.depthOf(now.row);
        }
        return partOfMove(firstOfFewest(), what - 1);
    }

    public int ways() {
        return hasBrook() ? toGoal.waysOf(now.row) : STATE;
    }

    public int wrong() {
        return hasBrook() ? firstWrong() : STATE;
    }

    public int ends() {
        if (!hasBrook()) {
            return STATE;
        }
        afresh.spread(rules, now.row, ONWARD, NONE);
        return afresh.stuckRows;
    }

    public int soon() {
        if (!hasBrook()) {
            return STATE;
        }
        afresh.spread(rules, now.row, ONWARD, NONE);
        return afresh.soonestStuck;
    }

    public int comes() {
        if (!hasBrook() || !page.tellsRow(rules.stones)) {
            return STATE;
        }
        return afresh.spread(rules, now.row, ONWARD, page.row());
    }

    public int more(int what) {
        if (what < 0 || what > 1) {
            return OUTSIDE;
        }
        if (!hasBrook() || rules.stones >= MOST_STONES) {
            return STATE;
        }
        otherRules.set(rules.stones + 1, rules.signs);
        int best = NONE;
        int least = NONE;
        for (int place = 0; place <= rules.stones; place++) {
            int needed = toTurnRound(otherRules, Rows.widened(readRow, place));
            if (isLess(needed, least)) {
                best = place;
                least = needed;
            }
        }
        return what == 0 ? best : least;
    }

    public int off(int what) {
        if (what < 0 || what > 1) {
            return OUTSIDE;
        }
        if (!hasBrook()) {
            return STATE;
        }
        int numbers = Rows.numbered(readRow);
        int best = NONE;
        int least = NONE;
        for (int stone = 0; stone < rules.stones; stone++) {
            int frog = Rows.at(numbers, stone) - 1;
            if (frog == NONE) {
                continue;
            }
            int needed = toTurnRound(rules, Rows.without(readRow, stone));
            if (isLess(needed, least)) {
                best = frog;
                least = needed;
            }
        }
        return what == 0 ? best : least;
    }

    // ---- a game

    public int wins(int side) {
        if (side < 0 || side > 1) {
            return OUTSIDE;
        }
        if (!hasGame()) {
            return STATE;
        }
        return game.hasIt(rules, now.row, side, 0) ? 1 : 0;
    }

    public int by(int side, int what) {
        if (side < 0 || side > 1 || what < 0 || what > 1) {
            return OUTSIDE;
        }
        if (!hasGame()) {
            return STATE;
        }
        return partOfMove(game.winningMove(rules, now.row, side, 0), what);
    }

    public int play(int times, int seed, int what) {
        if (times < 1 || times > MOST_KEPT || seed < 0 || what < 0 || what > 2) {
            return OUTSIDE;
        }
        if (!hasBrook()) {
            return STATE;
        }
        int row = now.row;
        int next = seed;
        int made = 0;
        for (int turn = 0; turn < times; turn++) {
            long left = rules.allMoves(row, ONWARD);
            if (left == 0) {
                break;
            }
            next = seedAfter(next);
            row = Rows.moved(row, moveOfNumber(left, drawOf(next, Long.bitCount(left))));
            made++;
        }
        if (what == 0) {
            return made;
        }
        return what == 2 ? next : row == goalRow ? 1 : 0;
    }

    // ---- what is told of all

    public int image() {
        if (!hasBrook()) {
            return STATE;
        }
        kept.copy(now);
        hasImage = true;
        return kept.size;
    }

    public int restore() {
        if (!hasImage) {
            return STATE;
        }
        now.copy(kept);
        return now.size;
    }

    public int count(int what) {
        switch (what) {
            case 0:
                return rules.stones;
            case 1:
                return frogs;
            case 2:
                return now.size;
            case 3:
                return rules.stones - frogs;
            case 4:
            case 5:
            case 6:
            case 7:
                return rules.has(what - 4) ? 1 : 0;
            case 8:
                return page.size;
            case 9:
                return timesRead;
            default:
                return OUTSIDE;
        }
    }

    public long digest() {
        long h = 613;
        for (int stone = 0; stone < rules.stones; stone++) {
            h = 31 * h + on(stone);
            h = 31 * h + frog(stone);
        }
        for (int frog = 0; frog < frogs; frog++) {
            for (int what = 0; what <= 2; what++) {
                h = 31 * h + about(frog, what);
            }
        }
        h = 31 * h + moves();
        if (hasBrook()) {
            for (int what = 0; what <= 2; what++) {
                h = 31 * h + fewest(what);
            }
            h = 31 * h + ways();
            h = 31 * h + wrong();
            h = 31 * h + ends();
            h = 31 * h + soon();
        }
        if (hasGame()) {
            h = 31 * h + wins(0);
            h = 31 * h + wins(1);
        }
        for (int i = 0; i < page.size && i < MOST_LETTERS; i++) {
            h = 31 * h + page.codes[i];
        }
        for (int what = 0; what <= 9; what++) {
            h = 31 * h + count(what);
        }
        return h;
    }

    // ---- helpers

    private boolean hasBrook() {
        return rules.stones > 0;
    }

    private boolean hasGame() {
        return hasBrook() && !rules.back && !rules.ring;
    }

    private boolean isStone(int stone) {
        return stone >= 0 && stone < rules.stones;
    }

    private boolean isFrog(int frog) {
        return frog >= 0 && frog < frogs;
    }

    private int kindOfFrog(int frog) {
        return Rows.at(now.row, now.stoneOf(frog));
    }

    private static int partOfMove(int move, int part) {
        if (move == NONE) {
            return NONE;
        }
        return part == 0 ? move >> 3 : move & 7;
    }

    private int firstOfFewest() {
        int depth = toGoal.depthOf(now.row);
        if (depth <= 0) {
            return NONE;
        }
        long left = rules.allMoves(now.row, ONWARD);
        int many = Long.bitCount(left);
        for (int i = 0; i < many; i++) {
            int move = Rows.lowestMove(left);
            left &= left - 1;
            if (toGoal.depthOf(Rows.moved(now.row, move)) == depth - 1) {
                return move;
            }
        }
        return NONE;
    }

    /** Once the goal is out of reach it stays so, hence the first row without it behind one that had it tells all. */
    private int firstWrong() {
        int row = readRow;
        if (toGoal.depthOf(row) == NONE) {
            return NONE;
        }
        for (int i = 0; i < now.size && i < MOST_KEPT; i++) {
            row = Rows.moved(row, now.made[i]);
            if (toGoal.depthOf(row) == NONE) {
                return i + 1;
            }
        }
        return NONE;
    }

    private int toTurnRound(Rules under, int row) {
        return afresh.spread(under, row, ONWARD, Rows.turned(row, under.stones));
    }

    private static boolean isLess(int needed, int least) {
        return needed != NONE && (least == NONE || needed < least);
    }

    private static int seedAfter(int seed) {
        return (int) ((1103515245L * seed + 12345L) & 0x7FFFFFFFL);
    }

    private static int drawOf(int seed, int many) {
        return many <= 0 ? 0 : (seed / 65536) % many;
    }

    private static int moveOfNumber(long moves, int number) {
        long left = moves;
        for (int i = 0; i < number; i++) {
            left &= left - 1;
        }
        return Rows.lowestMove(left);
    }

    /** What is written, before it is read. */
    private static final class Page {
        private final int[] codes = new int[MOST_LETTERS];
        private int size;

        /** How many letters the bytes tell; NONE: they are not as told. */
        static int lettersIn(long w) {
            int many = 0;
            boolean ended = false;
            for (int i = 0; i < 8; i++) {
                int code = codeIn(w, i);
                if (code > 126 || (ended && code != 0)) {
                    return NONE;
                }
                if (code == 0) {
                    ended = true;
                } else {
                    many++;
                }
            }
            return many;
        }

        private static int codeIn(long w, int place) {
            return (int) (w >>> (8 * place)) & 255;
        }

        void append(long w, int many) {
            for (int i = 0; i < many && size < MOST_LETTERS; i++) {
                codes[size] = codeIn(w, i);
                size++;
            }
        }

        private static int kindOf(int code) {
            switch (code) {
                case '.':
                    return FREE;
                case '>':
                    return GREEN;
                case '<':
                    return BROWN;
                case 'o':
                    return TOAD;
                case 'g':
                    return OLD;
                default:
                    return NONE;
            }
        }

        private static int signOf(int code) {
            switch (code) {
                case 'a':
                    return ANY;
                case 'b':
                    return BACK;
                case 'r':
                    return RING;
                case 't':
                    return TWO;
                default:
                    return NONE;
            }
        }

        int leadingStones() {
            int stones = 0;
            while (stones < size && stones < MOST_STONES && kindOf(codes[stones]) != NONE) {
                stones++;
            }
            return stones;
        }

        int firstFault() {
            int stones = leadingStones();
            if (stones >= size) {
                return size;
            }
            if (stones < FEWEST_STONES || codes[stones] != ';') {
                return stones;
            }
            int last = NONE;
            for (int i = stones + 1; i < size && i < MOST_LETTERS; i++) {
                int sign = signOf(codes[i]);
                if (sign <= last) {
                    return i;
                }
                last = sign;
            }
            return size;
        }

        boolean tellsBrook() {
            int stones = leadingStones();
            boolean signsWhole = size == stones || size > stones + 1;
            return stones >= FEWEST_STONES && signsWhole && firstFault() == size && row() != 0;
        }

        boolean tellsRow(int stones) {
            return size == stones && leadingStones() == stones;
        }

        int row() {
            int stones = leadingStones();
            int row = 0;
            for (int i = 0; i < stones && i < MOST_STONES; i++) {
                row |= kindOf(codes[i]) << (3 * i);
            }
            return row;
        }

        int signs() {
            int signs = 0;
            for (int i = leadingStones() + 1; i < size && i < MOST_LETTERS; i++) {
                int sign = signOf(codes[i]);
                if (sign != NONE) {
                    signs |= 1 << sign;
                }
            }
            return signs;
        }
    }

    /** What rows of three bits a stone have in common, whether kinds or frogs' numbers stand in them. */
    private static final class Rows {
        static int at(int row, int stone) {
            return row >> (3 * stone) & 7;
        }

        static int moved(int row, int move) {
            int from = 3 * (move >> 3);
            int to = 3 * (move & 7);
            int who = row >> from & 7;
            return row ^ (who << from) ^ (who << to);
        }

        static int turned(int row, int stones) {
            int turned = 0;
            for (int stone = 0; stone < stones; stone++) {
                turned = turned << 3 | at(row, stone);
            }
            return turned;
        }

        static int widened(int row, int place) {
            int ahead = row & ((1 << (3 * place)) - 1);
            return ahead | (row ^ ahead) << 3;
        }

        static int without(int row, int stone) {
            return row & ~(7 << (3 * stone));
        }

        static int freeStones(int row, int stones) {
            int free = 0;
            for (int stone = 0; stone < stones; stone++) {
                if (at(row, stone) == FREE) {
                    free++;
                }
            }
            return free;
        }

        /** The row with each frog's number and one more, as 0 is a free stone. */
        static int numbered(int row) {
            int numbers = 0;
            int many = 0;
            for (int stone = 0; stone < MOST_STONES; stone++) {
                if (at(row, stone) != FREE) {
                    many++;
                    numbers |= many << (3 * stone);
                }
            }
            return numbers;
        }

        static int lowestMove(long moves) {
            return Long.bitCount((moves & -moves) - 1) & 63;
        }
    }

    /** Who may go where. */
    private static final class Rules {
        private int stones;
        private int signs;
        private boolean any;
        private boolean back;
        private boolean ring;
        private boolean two;

        void set(int newStones, int newSigns) {
            stones = newStones;
            signs = newSigns;
            any = has(ANY);
            back = has(BACK);
            ring = has(RING);
            two = has(TWO);
        }

        boolean has(int sign) {
            return (signs >> sign & 1) == 1;
        }

        boolean allows(int row, int from, int to) {
            return (targets(row, from, ONWARD) >> to & 1) == 1;
        }

        /** ONWARD the moves of a row; BACKWARD those that, made on it, give the rows of which it comes by one move. */
        long allMoves(int row, int sense) {
            long found = 0;
            for (int stone = 0; stone < stones; stone++) {
                found |= (long) targets(row, stone, sense) << (8 * stone);
            }
            return found;
        }

        /** A move undone passes the same stones the other way, so the same rule tells from where a frog came. */
        private int targets(int row, int stone, int sense) {
            int kind = Rows.at(row, stone);
            if (kind == FREE || kind == TOAD) {
                return 0;
            }
            int forth = kind == BROWN ? -sense : sense;
            int found = landing(row, stone, forth);
            if (back) {
                found |= landing(row, stone, -forth);
            }
            return found;
        }

        /** A frog can only land on the first free stone of its way. */
        private int landing(int row, int stone, int step) {
            int kind = Rows.at(row, stone);
            int mostOver = kind == OLD ? 0 : two ? 2 : 1;
            int place = stone;
            for (int over = 0; over <= mostOver; over++) {
                place = beside(place, step);
                if (place == NONE) {
                    return 0;
                }
                int other = Rows.at(row, place);
                if (other == FREE) {
                    return 1 << place;
                }
                if (!leapsOver(kind, other)) {
                    return 0;
                }
            }
            return 0;
        }

        private int beside(int stone, int step) {
            int place = stone + step;
            if (place >= 0 && place < stones) {
                return place;
            }
            if (!ring) {
                return NONE;
            }
            return place < 0 ? stones - 1 : 0;
        }

        private boolean leapsOver(int kind, int other) {
            return any || (other != TOAD && (kind == BROWN) != (other == BROWN));
        }
    }

    /** The row as it is, who stands where, and what has been moved. */
    private static final class Position {
        private final int[] made = new int[MOST_KEPT];
        private final int[] movers = new int[MOST_KEPT];
        private int row;
        private int numbers;
        private int size;

        void begin(int firstRow, int firstNumbers) {
            row = firstRow;
            numbers = firstNumbers;
            size = 0;
        }

        void go(int from, int to) {
            if (size >= MOST_KEPT) {
                return;
            }
            int move = 8 * from + to;
            made[size] = move;
            movers[size] = Rows.at(numbers, from) - 1;
            size++;
            row = Rows.moved(row, move);
            numbers = Rows.moved(numbers, move);
        }

        /** The stone from which the last move went. */
        int takeBack() {
            if (size <= 0 || size > MOST_KEPT) {
                return NONE;
            }
            size--;
            int from = made[size] >> 3;
            int undone = 8 * (made[size] & 7) + from;
            row = Rows.moved(row, undone);
            numbers = Rows.moved(numbers, undone);
            return from;
        }

        int stoneOf(int frog) {
            for (int stone = 0; stone < MOST_STONES; stone++) {
                if (Rows.at(numbers, stone) == frog + 1) {
                    return stone;
                }
            }
            return 0;
        }

        int timesMoved(int frog) {
            int times = 0;
            for (int i = 0; i < size && i < MOST_KEPT; i++) {
                if (movers[i] == frog) {
                    times++;
                }
            }
            return times;
        }

        void copy(Position other) {
            row = other.row;
            numbers = other.numbers;
            size = other.size;
            for (int i = 0; i < size && i < MOST_KEPT; i++) {
                made[i] = other.made[i];
                movers[i] = other.movers[i];
            }
        }
    }

    /** Rows that were met, in the order in which they were; each is looked up by its place in that order. */
    private static final class Table {
        private final int[] slots = new int[SLOTS];
        private final int[] rows = new int[MOST_ROWS];
        private int size;

        void clear() {
            Arrays.fill(slots, 0);
            size = 0;
        }

        /** The place of a row; NONE: it was not met. */
        int find(int row) {
            return slots[slotOf(row)] - 1;
        }

        /** The place that a row has now, new or not; NONE: there is no room. */
        int meet(int row) {
            int slot = slotOf(row);
            if (slots[slot] == 0) {
                if (size >= MOST_ROWS) {
                    return NONE;
                }
                rows[size] = row;
                size++;
                slots[slot] = size;
            }
            return slots[slot] - 1;
        }

        /** The slot that holds a row's place and one more, or the empty one where it is due. */
        private int slotOf(int row) {
            int slot = (row * 0x9E3779B1) >>> 22 & (SLOTS - 1);
            for (int tries = 0; tries < SLOTS; tries++) {
                int place = slots[slot] - 1;
                if (place < 0 || place >= MOST_ROWS || rows[place] == row) {
                    return slot;
                }
                slot = (slot + 1) & (SLOTS - 1);
            }
            return slot;
        }
    }

    /** The rows round a row, the nearest ones first. */
    private static final class Search {
        private final Table table = new Table();
        private final int[] depths = new int[MOST_ROWS];
        private final int[] ways = new int[MOST_ROWS];
        private int stuckRows;
        private int soonestStuck;

        /** By how few moves the wanted row is met; NONE: it is not (then all rows have been met). */
        int spread(Rules rules, int start, int sense, int wanted) {
            table.clear();
            stuckRows = 0;
            soonestStuck = NONE;
            int first = table.meet(start);
            if (first != 0) {
                return NONE;
            }
            depths[0] = 0;
            ways[0] = 1;
            for (int place = 0; place < table.size && place < MOST_ROWS; place++) {
                int row = table.rows[place];
                if (row == wanted) {
                    return depths[place];
                }
                long moves = rules.allMoves(row, sense);
                if (moves == 0) {
                    noteStuck(depths[place]);
                }
                goOn(place, moves);
            }
            return NONE;
        }

        private void noteStuck(int depth) {
            stuckRows++;
            if (soonestStuck == NONE) {
                soonestStuck = depth;
            }
        }

        private void goOn(int place, long moves) {
            if (place < 0 || place >= MOST_ROWS) {
                return;
            }
            int depth = depths[place] + 1;
            long left = moves;
            int many = Long.bitCount(left);
            for (int i = 0; i < many; i++) {
                int move = Rows.lowestMove(left);
                left &= left - 1;
                int before = table.size;
                int next = table.meet(Rows.moved(table.rows[place], move));
                if (next < 0 || next >= MOST_ROWS) {
                    continue;
                }
                if (next == before) {
                    depths[next] = depth;
                    ways[next] = ways[place];
                } else if (depths[next] == depth) {
                    ways[next] += ways[place];
                }
            }
        }

        int depthOf(int row) {
            int place = table.find(row);
            return place < 0 || place >= MOST_ROWS ? NONE : depths[place];
        }

        int waysOf(int row) {
            int place = table.find(row);
            return place < 0 || place >= MOST_ROWS ? 0 : ways[place];
        }
    }

    /** Who has it for sure; what was found of a row holds as long as the brook does. */
    private static final class Game {
        private static final int LOST = 1, WON = 2;

        private final Table table = new Table();
        private final int[] known = new int[MOST_ROWS];

        void forget() {
            table.clear();
            Arrays.fill(known, 0);
        }

        private boolean hasIt(Rules rules, int row, int side, int depth) {
            int place = table.meet(row);
            if (depth > DEEPEST_GAME || place < 0 || place >= MOST_ROWS) {
                return false;
            }
            int said = known[place] >> (2 * side) & 3;
            if (said != 0) {
                return said == WON;
            }
            boolean won = winningMove(rules, row, side, depth) != NONE;
            known[place] |= (won ? WON : LOST) << (2 * side);
            return won;
        }

        private int winningMove(Rules rules, int row, int side, int depth) {
            long left = rules.allMoves(row, ONWARD);
            int many = Long.bitCount(left);
            for (int i = 0; i < many; i++) {
                int move = Rows.lowestMove(left);
                left &= left - 1;
                boolean own = (Rows.at(row, move >> 3) == BROWN) == (side == 1);
                if (own && !hasIt(rules, Rows.moved(row, move), 1 - side, depth + 1)) {
                    return move;
                }
            }
            return NONE;
        }
    }
}
