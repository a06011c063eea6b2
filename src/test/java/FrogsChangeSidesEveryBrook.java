/**
 * Every brook of three to five stones, every seventh row of six and every 61st of seven, with all signs, folded into one
 * number for each count of stones and set of signs. The numbers that are due were not taken from the class, but worked
 * out by a third writing of the document, in another language; NOTES.md tells of it.
 */
public final class FrogsChangeSidesEveryBrook {
    private static final int FEWEST_STONES = 3, MOST_STONES = 7, SETS_OF_SIGNS = 16, STEPS = 3;
    private static final int[] STRIDES = {1, 1, 1, 7, 61};
    private static final String KINDS = ".><og", SIGNS = "abrt";
    private static final long[][] DUE = {
        {
            8952008121107907169L, -4901876986845867563L, 6129670487247536516L, -2544781085991096592L,
            6455515624374038106L, 1981211482496458066L, -2362527903538072637L, 9083652872888213039L,
            -8872406718185489710L, -7439211620467348795L, 487103707053970708L, -8553086801254591916L,
            1193039483249638805L, 1334955013976287957L, -2450690040484265769L, 8995490735942019907L,
        },
        {
            -8602116583253617776L, 381310618596055343L, 6108509021451875433L, 540679939650886826L,
            -4619062326740629477L, -3025303444111243168L, -222760118366806714L, -8879643748251238545L,
            7225001564969808557L, 3855641606461054565L, -2517833370632660473L, -3101758717534289633L,
            9159947196157110144L, -8645431931225312510L, -6271941153259874213L, -2451656834350735697L,
        },
        {
            -1725244955172747121L, 4553259582317925793L, 7489329282088460042L, -1814513779342701507L,
            -4544249059008752717L, 5016805642850191822L, 2324803632824128901L, 1703557992043043809L,
            8390438369236718924L, 2888029503326354632L, -117586731138697215L, 6212796355744926650L,
            -6174936987806048128L, -4290335848745241766L, 5294444373395906468L, 7289008068968643221L,
        },
        {
            -318018679124221178L, -3882996577127265399L, 8419421625354406577L, 2387456016050348610L,
            -8420406618497601038L, 3855486527232800779L, 1975489843771679592L, -7849972174894113327L,
            7243060632467848773L, -2328879873460296497L, -6852090737800773779L, 7462556493684955412L,
            -8315303172222504457L, -4531206034174925404L, 727867939137647973L, 8625574266067250155L,
        },
        {
            -5354096724620077404L, -6475251397592127991L, -1554796787500926205L, 3125027540364285512L,
            -3976936312426800842L, -6107097114707807124L, -8194467531379138256L, -1385980031041766488L,
            -7980478639496172007L, -2843512080837750665L, -2350440414383016537L, -7444764815754513066L,
            -9056755997431306154L, -8796199974083614496L, -1292572036569477485L, -5022933599205158671L,
        },
    };

    private long fold = 0;

    public static void main(String[] args) {
        int wrong = 0;
        for (int stones = FEWEST_STONES; stones <= MOST_STONES; stones++) {
            for (int signs = 0; signs < SETS_OF_SIGNS; signs++) {
                long got = new FrogsChangeSidesEveryBrook().foldOf(stones, signs);
                long want = DUE[stones - FEWEST_STONES][signs];
                if (got != want) {
                    wrong++;
                    System.out.println(stones + " stones" + signsOf(signs) + " fold to " + got + ", due is " + want);
                }
            }
        }
        System.out.println(wrong == 0 ? "every brook is as due" : wrong + " folds are not as due");
        if (wrong != 0) {
            System.exit(1);
        }
    }

    private static String signsOf(int set) {
        StringBuilder text = new StringBuilder(set == 0 ? "" : ";");
        for (int i = 0; i < SIGNS.length(); i++) {
            if ((set >> i & 1) == 1) {
                text.append(SIGNS.charAt(i));
            }
        }
        return text.toString();
    }

    private static String rowOf(int stones, int code) {
        StringBuilder row = new StringBuilder();
        for (int i = 0, left = code; i < stones; i++, left /= KINDS.length()) {
            row.append(KINDS.charAt(left % KINDS.length()));
        }
        return row.toString();
    }

    private void add(long number) {
        fold = 31 * fold + number;
    }

    private long foldOf(int stones, int signs) {
        int all = 1;
        for (int i = 0; i < stones; i++) {
            all *= KINDS.length();
        }
        for (int code = 1; code < all; code += STRIDES[stones - FEWEST_STONES]) {
            addBrook(rowOf(stones, code), signsOf(signs), code);
        }
        return fold;
    }

    private void addBrook(String row, String signs, int code) {
        FrogsChangeSides x = new FrogsChangeSides();
        write(x, row + signs);
        x.brook();
        add(x.more(0));
        add(x.more(1));
        add(x.off(0));
        add(x.off(1));
        for (int step = 0; step < STEPS; step++) {
            addRow(x, code + step);
            if (x.moves() == 0) {
                break;
            }
            makeMove(x, (code + step) % x.moves());
        }
        write(x, new StringBuilder(row).reverse().toString());
        add(x.comes());
        add(x.digest());
    }

    private void addRow(FrogsChangeSides x, int seed) {
        add(x.digest());
        for (int side = 0; side < 2; side++) {
            add(x.by(side, 0));
            add(x.by(side, 1));
        }
        for (int what = 0; what < 3; what++) {
            add(x.play(60, seed, what));
        }
    }

    private static void makeMove(FrogsChangeSides x, int number) {
        int stones = x.count(0);
        int ahead = 0;
        for (int from = 0; from < stones; from++) {
            for (int to = 0; to < stones; to++) {
                if (x.may(from, to) == 1 && ahead++ == number) {
                    x.move(from, to);
                    return;
                }
            }
        }
    }

    private static void write(FrogsChangeSides x, String text) {
        for (int at = 0; at < text.length(); at += 8) {
            long w = 0;
            for (int i = Math.min(8, text.length() - at) - 1; i >= 0; i--) {
                w = w << 8 | text.charAt(at + i);
            }
            x.letters(w);
        }
    }
}
