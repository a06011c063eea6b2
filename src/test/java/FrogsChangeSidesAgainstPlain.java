import java.util.ArrayDeque;
import java.util.ArrayList;
import java.util.Collections;
import java.util.HashMap;
import java.util.List;
import java.util.Map;
import java.util.Random;

/**
 * Long drawn runs of calls, every brook of three or four stones, and the brooks with the most rows, against Plain:
 * the document's words written down a second time with texts and maps, as slow as they like, so that both are wrong
 * together only where the words were misread.
 */
public final class FrogsChangeSidesAgainstPlain {
    private static final int CALLS = 512;
    private static int wrong = 0;

    public static void main(String[] args) {
        int runs = args.length > 0 ? Integer.parseInt(args[0]) : 300;
        for (int seed = 0; seed < runs; seed++) {
            drawnRun(seed);
        }
        everySmallBrook(3);
        everySmallBrook(4);
        for (String text : new String[] {"g<<>>..;ab", "gg<<>..;abr", "gg<<>>.;abrt", "<<>gg..;r", "g>>>...;r", "<<<>g>.;r"}) {
            oneBrook(new FrogsChangeSides(), new Plain(), text);
        }
        for (int seed = 0; seed < 20; seed++) {
            manyGames(seed);
        }
        System.out.println(wrong == 0 ? "both agree" : wrong + " answers differ");
        if (wrong != 0) {
            System.exit(1);
        }
    }

    private static boolean same(String where, String call, long got, long want) {
        if (got == want) {
            return true;
        }
        wrong++;
        if (wrong <= 40) {
            System.out.println(where + ": " + call + " answered " + got + ", due is " + want);
        }
        return false;
    }

    private static void everySmallBrook(int stones) {
        String kinds = ".><og";
        int all = 1;
        for (int i = 0; i < stones; i++) {
            all *= 5;
        }
        FrogsChangeSides x = new FrogsChangeSides();
        Plain p = new Plain();
        for (int code = 1; code < all; code++) {
            StringBuilder row = new StringBuilder();
            for (int i = 0, left = code; i < stones; i++, left /= 5) {
                row.append(kinds.charAt(left % 5));
            }
            for (int signs = 0; signs < 16; signs++) {
                oneBrook(x, p, row + signsOf(signs));
            }
            if (code % 2 == 0) {
                x = new FrogsChangeSides();
                p = new Plain();
            }
        }
    }

    private static String signsOf(int bits) {
        StringBuilder s = new StringBuilder();
        for (int i = 0; i < 4; i++) {
            if ((bits >> i & 1) == 1) {
                s.append("abrt".charAt(i));
            }
        }
        return bits == 0 ? "" : ";" + s;
    }

    private static void oneBrook(FrogsChangeSides x, Plain p, String text) {
        write(x, p, text);
        same(text, "brook()", x.brook(), p.brook());
        for (int what = 0; what < 2; what++) {
            same(text, "more(" + what + ")", x.more(what), p.more(what));
            same(text, "off(" + what + ")", x.off(what), p.off(what));
            for (int side = 0; side < 2; side++) {
                same(text, "by(" + side + ", " + what + ")", x.by(side, what), p.by(side, what));
            }
        }
        same(text, "digest()", x.digest(), p.digest());
    }

    /** One object for many brooks, so that nothing found of one may be left for another. */
    private static void manyGames(int seed) {
        Random random = new Random(seed);
        FrogsChangeSides x = new FrogsChangeSides();
        Plain p = new Plain();
        for (int i = 0; i < 100; i++) {
            StringBuilder row = new StringBuilder(">");
            for (int stone = 1; stone < 7; stone++) {
                row.append(".>.<>.g".charAt(random.nextInt(7)));
            }
            String text = row + new String[] {"", ";a", ";t", ";at"}[random.nextInt(4)];
            write(x, p, text);
            same(text, "brook()", x.brook(), p.brook());
            same(text, "wins(0)", x.wins(0), p.wins(0));
            same(text, "wins(1)", x.wins(1), p.wins(1));
        }
    }

    private static void write(FrogsChangeSides x, Plain p, String text) {
        for (int at = 0; at < text.length(); at += 8) {
            long w = 0;
            for (int i = Math.min(8, text.length() - at) - 1; i >= 0; i--) {
                w = w << 8 | text.charAt(at + i);
            }
            same(text, "letters(" + w + ")", x.letters(w), p.letters(w));
        }
    }

    private static void drawnRun(int seed) {
        Random random = new Random(seed);
        FrogsChangeSides x = new FrogsChangeSides();
        Plain p = new Plain();
        StringBuilder told = new StringBuilder();
        for (int i = 0; i < CALLS; i++) {
            long[] got = new long[2];
            String call = drawnCall(random, x, p, got);
            told.append(call).append(' ');
            if (!same("seed " + seed + " call " + i, call, got[0], got[1])) {
                System.out.println("  behind: " + told);
                return;
            }
        }
        same("seed " + seed, "digest()", x.digest(), p.digest());
    }

    private static int near(Random r, int below) {
        return r.nextInt(40) == 0 ? (r.nextBoolean() ? Integer.MIN_VALUE : Integer.MAX_VALUE) : r.nextInt(below + 2) - 1;
    }

    private static long drawnLetters(Random r, Plain p) {
        StringBuilder text = new StringBuilder();
        int sort = r.nextInt(12);
        if (sort < 6) {
            int n = sort < 3 || p.row.isEmpty() ? 3 + r.nextInt(5) : p.row.length();
            String kinds = r.nextInt(3) == 0 ? ".><og" : r.nextBoolean() ? ".><" : "..>><<g";
            for (int i = 0; i < n; i++) {
                text.append(kinds.charAt(r.nextInt(kinds.length())));
            }
        } else if (sort < 8) {
            text.append(signsOf(r.nextInt(16)));
        } else if (sort == 8 && !p.row.isEmpty()) {
            text.append(p.row);
            List<int[]> moves = p.movesOf(p.row);
            for (int i = r.nextInt(6); i > 0 && !moves.isEmpty(); i--) {
                int[] m = moves.get(r.nextInt(moves.size()));
                String next = Plain.moved(text.toString(), m[0], m[1]);
                text.setLength(0);
                text.append(next);
                moves = p.movesOf(next);
            }
        } else if (sort == 9) {
            return r.nextLong();
        } else {
            for (int i = r.nextInt(5); i > 0; i--) {
                text.append((char) (r.nextInt(8) == 0 ? 125 + r.nextInt(4) : ".><og;abrtx".charAt(r.nextInt(11))));
            }
        }
        long w = 0;
        for (int i = Math.min(8, text.length()) - 1; i >= 0; i--) {
            w = w << 8 | text.charAt(i);
        }
        if (r.nextInt(30) == 0) {
            w &= ~(255L << 8 * r.nextInt(8));
        }
        return w;
    }

    private static String drawnCall(Random r, FrogsChangeSides x, Plain p, long[] got) {
        int a = near(r, 7);
        int b = near(r, 7);
        int c = near(r, 3);
        switch (r.nextInt(44)) {
            case 0: case 1: case 2: case 3: {
                long w = drawnLetters(r, p);
                got[0] = x.letters(w);
                got[1] = p.letters(w);
                return "letters(" + w + "L)";
            }
            case 4: case 5:
                got[0] = x.blank();
                got[1] = p.blank();
                return "blank()";
            case 6:
                got[0] = x.fault();
                got[1] = p.fault();
                return "fault()";
            case 7: case 8:
                got[0] = x.brook();
                got[1] = p.brook();
                return "brook()";
            case 9:
                got[0] = x.on(a);
                got[1] = p.on(a);
                return "on(" + a + ")";
            case 10:
                got[0] = x.frog(a);
                got[1] = p.frog(a);
                return "frog(" + a + ")";
            case 11: case 12:
                got[0] = x.about(a, c);
                got[1] = p.about(a, c);
                return "about(" + a + ", " + c + ")";
            case 13:
                b = near(r, 5);
                got[0] = x.as(a, b);
                got[1] = p.as(a, b);
                return "as(" + a + ", " + b + ")";
            case 14: case 15:
                got[0] = x.may(a, b);
                got[1] = p.may(a, b);
                return "may(" + a + ", " + b + ")";
            case 16:
                got[0] = x.moves();
                got[1] = p.moves();
                return "moves()";
            case 17:
                got[0] = x.move(a, b);
                got[1] = p.move(a, b);
                return "move(" + a + ", " + b + ")";
            case 18: case 19: case 20: case 21: case 22: case 23: case 24: case 25: {
                List<int[]> moves = p.movesOf(p.row);
                int[] m = moves.isEmpty() ? new int[] {a, b} : moves.get(r.nextInt(moves.size()));
                got[0] = x.move(m[0], m[1]);
                got[1] = p.move(m[0], m[1]);
                return "move(" + m[0] + ", " + m[1] + ")";
            }
            case 26: case 27:
                got[0] = x.back();
                got[1] = p.back();
                return "back()";
            default:
                return drawnQuestion(r, x, p, got);
        }
    }

    private static String drawnQuestion(Random r, FrogsChangeSides x, Plain p, long[] got) {
        int a = near(r, 2);
        int c = near(r, 3);
        switch (r.nextInt(15)) {
            case 0:
                got[0] = x.fewest(c);
                got[1] = p.fewest(c);
                return "fewest(" + c + ")";
            case 1:
                got[0] = x.ways();
                got[1] = p.ways();
                return "ways()";
            case 2:
                got[0] = x.wrong();
                got[1] = p.wrong();
                return "wrong()";
            case 3:
                got[0] = x.ends();
                got[1] = p.ends();
                return "ends()";
            case 4:
                got[0] = x.soon();
                got[1] = p.soon();
                return "soon()";
            case 5: case 6:
                got[0] = x.comes();
                got[1] = p.comes();
                return "comes()";
            case 7:
                got[0] = x.more(a);
                got[1] = p.more(a);
                return "more(" + a + ")";
            case 8:
                got[0] = x.off(a);
                got[1] = p.off(a);
                return "off(" + a + ")";
            case 9:
                got[0] = x.wins(a);
                got[1] = p.wins(a);
                return "wins(" + a + ")";
            case 10: {
                int b = near(r, 2);
                got[0] = x.by(a, b);
                got[1] = p.by(a, b);
                return "by(" + a + ", " + b + ")";
            }
            case 11: {
                int times = r.nextInt(4) == 0 ? near(r, 61) : 1 + r.nextInt(60);
                int seed = r.nextInt(9) == 0 ? r.nextInt() : r.nextInt() >>> 1;
                got[0] = x.play(times, seed, c);
                got[1] = p.play(times, seed, c);
                return "play(" + times + ", " + seed + ", " + c + ")";
            }
            case 12:
                if (r.nextInt(3) > 0) {
                    got[0] = x.restore();
                    got[1] = p.restore();
                    return "restore()";
                }
                got[0] = x.image();
                got[1] = p.image();
                return "image()";
            case 13: {
                int what = near(r, 10);
                got[0] = x.count(what);
                got[1] = p.count(what);
                return "count(" + what + ")";
            }
            default:
                got[0] = x.digest();
                got[1] = p.digest();
                return "digest()";
        }
    }

    /** The document, once more. */
    private static final class Plain {
        private static final int NONE = -1, UNKNOWN = -101, OUTSIDE = -102, STATE = -103, FULL = -104;

        private String page = "";
        private String row = "";
        private String read = "";
        private String signs = "";
        private int timesRead = 0;
        private List<Integer> where = new ArrayList<>();
        private List<int[]> done = new ArrayList<>();
        private List<int[]> image = null;
        private final Map<String, Integer> distances = new HashMap<>();
        private final Map<String, Boolean> games = new HashMap<>();

        int letters(long w) {
            String more = "";
            boolean ended = false;
            for (int i = 0; i < 8; i++) {
                int code = (int) (w >>> 8 * i & 255);
                if (code > 126 || ended && code != 0) {
                    return OUTSIDE;
                }
                ended |= code == 0;
                if (!ended) {
                    more += (char) code;
                }
            }
            if (page.length() + more.length() > 14) {
                return FULL;
            }
            page += more;
            return page.length();
        }

        int blank() {
            int had = page.length();
            page = "";
            return had;
        }

        /** Whether some brook (a FROG or not) begins with these letters. */
        private static boolean begins(String text) {
            return text.matches("[.<>og]{0,7}|[.<>og]{3,7};a?b?r?t?");
        }

        int fault() {
            for (int n = 1; n <= page.length(); n++) {
                if (!begins(page.substring(0, n))) {
                    return n - 1;
                }
            }
            return page.length();
        }

        int brook() {
            if (!page.matches("[.<>og]{3,7}(;(?=[abrt])a?b?r?t?)?") || !page.replaceAll(";.*", "").matches(".*[<>og].*")) {
                return STATE;
            }
            int semi = page.indexOf(';');
            read = semi < 0 ? page : page.substring(0, semi);
            signs = semi < 0 ? "" : page.substring(semi + 1);
            page = "";
            image = null;
            distances.clear();
            games.clear();
            timesRead++;
            setTo(new ArrayList<>());
            return read.length();
        }

        private void setTo(List<int[]> moves) {
            row = read;
            where = new ArrayList<>();
            done = new ArrayList<>();
            for (int i = 0; i < read.length(); i++) {
                if (read.charAt(i) != '.') {
                    where.add(i);
                }
            }
            for (int[] m : moves) {
                doMove(m[0], m[1]);
            }
        }

        private void doMove(int from, int to) {
            int frog = where.indexOf(from);
            where.set(frog, to);
            row = moved(row, from, to);
            done.add(new int[] {from, to, frog});
        }

        private static String moved(String row, int from, int to) {
            char[] next = row.toCharArray();
            next[to] = next[from];
            next[from] = '.';
            return new String(next);
        }

        private boolean stone(int s) {
            return s >= 0 && s < row.length();
        }

        int on(int s) {
            int kind = stone(s) ? ".><og".indexOf(row.charAt(s)) : UNKNOWN;
            return kind == 0 ? NONE : kind;
        }

        int frog(int s) {
            return stone(s) ? where.indexOf(s) : UNKNOWN;
        }

        int about(int f, int what) {
            if (f < 0 || f >= where.size()) {
                return UNKNOWN;
            }
            if (what < 0 || what > 2) {
                return OUTSIDE;
            }
            int times = 0;
            for (int[] m : done) {
                times += m[2] == f ? 1 : 0;
            }
            return what == 0 ? on(where.get(f)) : what == 1 ? where.get(f) : times;
        }

        int as(int f, int kind) {
            if (f < 0 || f >= where.size()) {
                return UNKNOWN;
            }
            if (kind < 0 || kind > 4) {
                return OUTSIDE;
            }
            String[] such = {"><og", ">g", "<", "o", "g"};
            return such[kind].indexOf(row.charAt(where.get(f))) >= 0 ? f : NONE;
        }

        private boolean sign(char c) {
            return signs.indexOf(c) >= 0;
        }

        private boolean such(char who, char over) {
            if (over == '.') {
                return false;
            }
            boolean green = who == '>' || who == 'g';
            return sign('a') || (green ? over == '<' : over == '>' || over == 'g');
        }

        private boolean can(String r, int from, int to) {
            int n = r.length();
            char who = r.charAt(from);
            if (who == '.' || who == 'o' || r.charAt(to) != '.') {
                return false;
            }
            for (int dir = -1; dir <= 1; dir += 2) {
                boolean forth = (dir == 1) == (who != '<');
                for (int far = 1; far <= (sign('t') ? 3 : 2); far++) {
                    int end = from + dir * far;
                    boolean there = sign('r') ? Math.floorMod(end, n) == to : end == to;
                    boolean over = true;
                    for (int k = 1; k < far; k++) {
                        over &= there && such(who, r.charAt(Math.floorMod(from + dir * k, n)));
                    }
                    if (there && over && (forth || sign('b')) && (far == 1 || who != 'g')) {
                        return true;
                    }
                }
            }
            return false;
        }

        List<int[]> movesOf(String r) {
            List<int[]> all = new ArrayList<>();
            for (int from = 0; from < r.length(); from++) {
                for (int to = 0; to < r.length(); to++) {
                    if (can(r, from, to)) {
                        all.add(new int[] {from, to});
                    }
                }
            }
            return all;
        }

        int may(int from, int to) {
            return !stone(from) || !stone(to) ? UNKNOWN : can(row, from, to) ? 1 : 0;
        }

        int moves() {
            return movesOf(row).size();
        }

        int move(int from, int to) {
            if (!stone(from) || !stone(to)) {
                return UNKNOWN;
            }
            if (!can(row, from, to)) {
                return STATE;
            }
            if (done.size() == 60) {
                return FULL;
            }
            doMove(from, to);
            return done.size();
        }

        int back() {
            if (done.isEmpty()) {
                return STATE;
            }
            List<int[]> less = new ArrayList<>(done);
            int[] last = less.remove(less.size() - 1);
            setTo(less);
            return last[0];
        }

        private static String turned(String r) {
            return new StringBuilder(r).reverse().toString();
        }

        private Map<String, Integer> from(String start) {
            Map<String, Integer> found = new HashMap<>();
            ArrayDeque<String> queue = new ArrayDeque<>();
            found.put(start, 0);
            queue.add(start);
            while (!queue.isEmpty()) {
                String r = queue.remove();
                for (int[] m : movesOf(r)) {
                    String next = moved(r, m[0], m[1]);
                    if (!found.containsKey(next)) {
                        found.put(next, found.get(r) + 1);
                        queue.add(next);
                    }
                }
            }
            return found;
        }

        private int toGoal(String r) {
            return distances.computeIfAbsent(r, k -> from(k).getOrDefault(turned(read), NONE));
        }

        int fewest(int what) {
            if (what < 0 || what > 2) {
                return OUTSIDE;
            }
            if (row.isEmpty()) {
                return STATE;
            }
            int all = toGoal(row);
            if (what == 0 || all <= 0) {
                return what == 0 ? all : NONE;
            }
            for (int[] m : movesOf(row)) {
                if (toGoal(moved(row, m[0], m[1])) == all - 1) {
                    return m[what - 1];
                }
            }
            throw new IllegalStateException();
        }

        /** The document tells no bound for so many; beyond an int it is taken to wrap, as an int does. */
        int ways() {
            if (row.isEmpty()) {
                return STATE;
            }
            int all = toGoal(row);
            Map<String, Long> layer = new HashMap<>();
            layer.put(row, 1L);
            for (int step = 0; step < all; step++) {
                Map<String, Long> next = new HashMap<>();
                for (Map.Entry<String, Long> e : layer.entrySet()) {
                    for (int[] m : movesOf(e.getKey())) {
                        next.merge(moved(e.getKey(), m[0], m[1]), e.getValue(), Long::sum);
                    }
                }
                layer = next;
            }
            return all == NONE ? 0 : (int) (long) layer.get(turned(read));
        }

        int wrong() {
            if (row.isEmpty()) {
                return STATE;
            }
            String r = read;
            for (int i = 0; i < done.size(); i++) {
                String next = moved(r, done.get(i)[0], done.get(i)[1]);
                if (toGoal(r) != NONE && toGoal(next) == NONE) {
                    return i + 1;
                }
                r = next;
            }
            return NONE;
        }

        private List<Integer> stuckDepths() {
            List<Integer> depths = new ArrayList<>();
            for (Map.Entry<String, Integer> e : from(row).entrySet()) {
                if (movesOf(e.getKey()).isEmpty()) {
                    depths.add(e.getValue());
                }
            }
            return depths;
        }

        int ends() {
            return row.isEmpty() ? STATE : stuckDepths().size();
        }

        int soon() {
            if (row.isEmpty()) {
                return STATE;
            }
            List<Integer> depths = stuckDepths();
            return depths.isEmpty() ? NONE : Collections.min(depths);
        }

        int comes() {
            if (row.isEmpty() || !page.matches("[.<>og]{" + row.length() + "}")) {
                return STATE;
            }
            return from(row).getOrDefault(page, NONE);
        }

        private int least(List<String> rows, int what) {
            int best = NONE;
            int least = NONE;
            for (int i = 0; i < rows.size(); i++) {
                int d = from(rows.get(i)).getOrDefault(turned(rows.get(i)), NONE);
                if (d != NONE && (least == NONE || d < least)) {
                    best = i;
                    least = d;
                }
            }
            return what == 0 ? best : least;
        }

        int more(int what) {
            if (what < 0 || what > 1) {
                return OUTSIDE;
            }
            if (row.isEmpty() || row.length() == 7) {
                return STATE;
            }
            List<String> rows = new ArrayList<>();
            for (int i = 0; i <= read.length(); i++) {
                rows.add(read.substring(0, i) + "." + read.substring(i));
            }
            return least(rows, what);
        }

        int off(int what) {
            if (what < 0 || what > 1) {
                return OUTSIDE;
            }
            if (row.isEmpty()) {
                return STATE;
            }
            List<String> rows = new ArrayList<>();
            for (int i = 0; i < read.length(); i++) {
                if (read.charAt(i) != '.') {
                    rows.add(read.substring(0, i) + "." + read.substring(i + 1));
                }
            }
            return least(rows, what);
        }

        private List<int[]> ofSide(String r, int side) {
            List<int[]> own = new ArrayList<>();
            for (int[] m : movesOf(r)) {
                if ((side == 0 ? ">g" : "<").indexOf(r.charAt(m[0])) >= 0) {
                    own.add(m);
                }
            }
            return own;
        }

        private boolean has(String r, int side) {
            Boolean known = games.get(r + side);
            if (known == null) {
                known = false;
                for (int[] m : ofSide(r, side)) {
                    known |= !has(moved(r, m[0], m[1]), 1 - side);
                }
                games.put(r + side, known);
            }
            return known;
        }

        int wins(int side) {
            if (side != 0 && side != 1) {
                return OUTSIDE;
            }
            return row.isEmpty() || sign('b') || sign('r') ? STATE : has(row, side) ? 1 : 0;
        }

        int by(int side, int what) {
            if (side != 0 && side != 1 || what != 0 && what != 1) {
                return OUTSIDE;
            }
            if (row.isEmpty() || sign('b') || sign('r')) {
                return STATE;
            }
            for (int[] m : ofSide(row, side)) {
                if (!has(moved(row, m[0], m[1]), 1 - side)) {
                    return m[what];
                }
            }
            return NONE;
        }

        int play(int times, int seed, int what) {
            if (times < 1 || times > 60 || seed < 0 || what < 0 || what > 2) {
                return OUTSIDE;
            }
            if (row.isEmpty()) {
                return STATE;
            }
            String r = row;
            long s = seed;
            int made = 0;
            while (made < times && !movesOf(r).isEmpty()) {
                s = Math.floorMod(1103515245L * s + 12345L, 1L << 31);
                List<int[]> all = movesOf(r);
                int[] m = all.get((int) (s / 65536 % all.size()));
                r = moved(r, m[0], m[1]);
                made++;
            }
            return what == 0 ? made : what == 1 ? (r.equals(turned(read)) ? 1 : 0) : (int) s;
        }

        int image() {
            if (row.isEmpty()) {
                return STATE;
            }
            image = new ArrayList<>(done);
            return done.size();
        }

        int restore() {
            if (image == null) {
                return STATE;
            }
            setTo(image);
            return done.size();
        }

        int count(int what) {
            int[] told = {row.length(), where.size(), done.size(), row.length() - where.size(), sign('a') ? 1 : 0,
                sign('b') ? 1 : 0, sign('r') ? 1 : 0, sign('t') ? 1 : 0, page.length(), timesRead};
            return what < 0 || what > 9 ? OUTSIDE : told[what];
        }

        long digest() {
            List<Integer> told = new ArrayList<>();
            for (int s = 0; s < row.length(); s++) {
                told.add(on(s));
                told.add(frog(s));
            }
            for (int f = 0; f < where.size(); f++) {
                told.addAll(List.of(about(f, 0), about(f, 1), about(f, 2)));
            }
            told.add(moves());
            if (!row.isEmpty()) {
                told.addAll(List.of(fewest(0), fewest(1), fewest(2), ways(), wrong(), ends(), soon()));
                if (!sign('b') && !sign('r')) {
                    told.addAll(List.of(wins(0), wins(1)));
                }
            }
            for (char c : page.toCharArray()) {
                told.add((int) c);
            }
            for (int what = 0; what < 10; what++) {
                told.add(count(what));
            }
            long h = 613;
            for (int n : told) {
                h = 31 * h + n;
            }
            return h;
        }
    }
}
