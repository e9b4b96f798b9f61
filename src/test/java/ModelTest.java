import java.util.Random;

/** Long runs of calls, the same on the class and on the plain model of the document. */
public final class ModelTest {
    // An object answers 512 calls; a turn makes five at most, and a reset.
    private static final int CALLS = 512 - 6;
    private static final int SPELL = 160;
    private static final int[] ODD_NUMBERS = {Integer.MIN_VALUE, -1001, -2, -1, 0, 1, 2, 3, 5, 6, 31, 32, 33,
        999, 1000, 1001, 1002, 39999, 40000, 40001, Integer.MAX_VALUE};

    private final Random random;
    private final TagTrees tree;
    private final Model model;
    private final int width;
    private final int height;
    private final int reach;
    /** Whether it is one of the runs whose bits come up to 40000. */
    private final boolean dear;
    private String call = "";
    private int calls = 0;

    private ModelTest(long seed) {
        random = new Random(seed);
        dear = seed % 8 == 0;
        int most = random.nextInt(4) == 0 ? 33 : random.nextInt(6) + 1;
        width = dear ? 32 : random.nextInt(most) + (random.nextInt(8) == 0 ? 0 : 1);
        height = dear ? 32 : random.nextInt(most) + (random.nextInt(8) == 0 ? 0 : 1);
        // With low values there are few bits, and many thresholds that meet.
        reach = dear || random.nextInt(3) == 0 ? 1001 : random.nextInt(12) + 1;
        tree = new TagTrees(width, height);
        model = new Model(width, height);
    }

    public static void main(String[] args) {
        for (long seed = 1; seed <= 600; seed++) {
            new ModelTest(seed).run(seed);
        }
        Due.end();
    }

    private void run(long seed) {
        for (int i = 0; calls < CALLS; i++) {
            // Values can be set only as long as nothing is told: most runs begin anew with them.
            if (i % SPELL == 0 && seed % 3 != 0) {
                resetBoth();
            }
            int kind = i % SPELL < 20 ? random.nextInt(2) : random.nextInt(40);
            String[] answers = answers(kind);
            Due.is("seed " + seed + ", call " + i + ", " + call, answers[0], answers[1]);
        }
    }

    private void resetBoth() {
        tree.reset();
        model.reset();
        calls++;
    }

    private boolean rarely() {
        return random.nextInt(40) == 0;
    }

    private int odd() {
        return ODD_NUMBERS[random.nextInt(ODD_NUMBERS.length)];
    }

    private int across() {
        return rarely() ? odd() : random.nextInt(Math.max(1, Math.min(32, width)));
    }

    private int downward() {
        return rarely() ? odd() : random.nextInt(Math.max(1, Math.min(32, height)));
    }

    private int number() {
        return rarely() ? odd() : random.nextInt(reach + 1);
    }

    private int order() {
        return rarely() ? odd() : random.nextInt(3);
    }

    private String[] both(String text, Due.Call ours, Due.Call theirs) {
        call = text;
        calls++;
        return new String[] {Due.answerOf(ours), Due.answerOf(theirs)};
    }

    private String[] answers(int kind) {
        int x = across();
        int y = downward();
        int t = dear && random.nextInt(4) == 0 ? random.nextInt(60) : number();
        int o = order();
        if (kind == 0) {
            return both("value(" + x + ", " + y + ", " + t + ")",
                () -> tree.value(x, y, t), () -> model.value(x, y, t));
        }
        if (kind == 1) {
            if (dear) {
                return zerosAmongHighValues();
            }
            int n = random.nextInt(4) == 0 ? 2000 : random.nextInt(5) - (rarely() ? 5 : 0);
            int v = random.nextInt(4) == 0 ? odd() : t;
            int step = random.nextInt(4) == 0 ? odd() : random.nextInt(2 * reach) - reach;
            return both("values(" + x + ", " + y + ", " + n + ", " + v + ", " + step + ")",
                () -> tree.values(x, y, n, v, step), () -> model.values(x, y, n, v, step));
        }
        if (kind < 8) {
            return both("encode(" + x + ", " + y + ", " + t + ")",
                () -> tree.encode(x, y, t), () -> model.encode(x, y, t));
        }
        if (kind == 8) {
            return both("encodeAll(" + o + ", " + t + ")",
                () -> tree.encodeAll(o, t), () -> model.encodeAll(o, t));
        }
        if (kind < 11) {
            return both("cost(" + x + ", " + y + ", " + t + ")",
                () -> tree.cost(x, y, t), () -> model.cost(x, y, t));
        }
        if (kind < 17) {
            return both("decode(" + x + ", " + y + ", " + t + ")",
                () -> tree.decode(x, y, t), () -> model.decode(x, y, t));
        }
        if (kind < 19) {
            return both("decodeAll(" + o + ", " + t + ")",
                () -> tree.decodeAll(o, t), () -> model.decodeAll(o, t));
        }
        return kind < 25 ? passings(kind) : looks(kind, x, y, o);
    }

    /** A row with some 0 among high values: most leaves' bits are then their own, not of nodes above. */
    private String[] zerosAmongHighValues() {
        int row = downward();
        int step = random.nextInt(1000) + 1;
        for (int x = 0; x < 31; x += 8) {
            int from = x;
            String[] answers = both("values(" + from + ", " + row + ", 8, 0, " + step + ")",
                () -> tree.values(from, row, 8, 0, step), () -> model.values(from, row, 8, 0, step));
            Due.is(call, answers[0], answers[1]);
        }
        return both("told(4)", () -> tree.told(4), () -> model.told(4));
    }

    private String[] passings(int kind) {
        if (kind < 22) {
            int bit = rarely() ? odd() : random.nextInt(2);
            return both("feed(" + bit + ")", () -> tree.feed(bit), () -> model.feed(bit));
        }
        int many = random.nextInt(dear ? 2 : 4) == 0 ? odd() : random.nextInt(20);
        return both("pass(" + many + ")", () -> tree.pass(many), () -> model.pass(many));
    }

    private String[] looks(int kind, int x, int y, int o) {
        int level = random.nextInt(8) == 0 ? odd() : random.nextInt(model.told(2));
        int nodeX = level >= 0 && level < 7 ? x >> level : x;
        int nodeY = level >= 0 && level < 7 ? y >> level : y;
        boolean side = random.nextBoolean();
        if (kind < 27) {
            int i = rarely() ? odd() : random.nextInt(model.told(4) + 2) - 1;
            return both("bitAt(" + i + ")", () -> tree.bitAt(i), () -> model.bitAt(i));
        }
        if (kind < 30) {
            return both("known(" + x + ", " + y + ")", () -> tree.known(x, y), () -> model.known(x, y));
        }
        if (kind < 34) {
            return both("bound(" + side + ", " + level + ", " + nodeX + ", " + nodeY + ")",
                () -> tree.bound(side, level, nodeX, nodeY), () -> model.bound(side, level, nodeX, nodeY));
        }
        if (kind == 34) {
            return both("least(" + level + ", " + nodeX + ", " + nodeY + ")",
                () -> tree.least(level, nodeX, nodeY), () -> model.least(level, nodeX, nodeY));
        }
        if (kind == 35) {
            int k = rarely() ? odd() : random.nextInt(model.told(0) * model.told(1) + 2) - 1;
            return both("leaf(" + o + ", " + k + ")", () -> tree.leaf(o, k), () -> model.leaf(o, k));
        }
        if (kind < 39 || random.nextInt(4) != 0) {
            int what = random.nextInt(10) - 1;
            return both("told(" + what + ")", () -> tree.told(what), () -> model.told(what));
        }
        resetBoth();
        return both("told(4) after reset()", () -> tree.told(4), () -> model.told(4));
    }
}
