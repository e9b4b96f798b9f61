/** A part for each promise of the document: ordinary calls, the edges it names, wrong inputs. */
public final class PromisesTest {
    private static final Class<IndexOutOfBoundsException> INDEX = Due.INDEX;
    private static final Class<IllegalArgumentException> ARGUMENT = Due.ARGUMENT;
    private static final Class<IllegalStateException> STATE = Due.STATE;
    private static final Class<UnsupportedOperationException> TOO_MANY = Due.TOO_MANY;
    private static final int LOW = Due.LOW;
    private static final int HIGH = Due.HIGH;

    public static void main(String[] args) {
        promise1NewObject();
        promise2Value();
        promise3Values();
        promise4Encode();
        promise4Propagation();
        promise5Cost();
        promise6EncodeAll();
        promise7BitAt();
        promise8Feed();
        promise9Pass();
        promise10Decode();
        promise10Zeros();
        promise11DecodeAll();
        promise12Known();
        promise13Bound();
        promise14Least();
        promise15Leaf();
        promise16Told();
        promise17Reset();
        limitOfBitsTold();
        limitOfBitsWaiting();
        Due.end();
    }

    private static void promise1NewObject() {
        Due.is("3 x 2", Seen.sizes(new TagTrees(3, 2)), "3 2 3 9 0 0 0 0");
        Due.is("1 x 1", Seen.sizes(new TagTrees(1, 1)), "1 1 1 1 0 0 0 0");
        Due.is("32 x 32", Seen.sizes(new TagTrees(32, 32)), "32 32 6 1365 0 0 0 0");
        Due.is("32 x 1", Seen.sizes(new TagTrees(32, 1)), "32 1 6 63 0 0 0 0");
        Due.is("1 x 17", Seen.sizes(new TagTrees(1, 17)), "1 17 6 37 0 0 0 0");
        Due.is("16 x 9", Seen.sizes(new TagTrees(16, 9)), "16 9 5 201 0 0 0 0");
        Due.is("0 x 33", Seen.sizes(new TagTrees(0, 33)), "1 32 6 63 0 0 0 0");
        Due.is("low x high", Seen.sizes(new TagTrees(LOW, HIGH)), "1 32 6 63 0 0 0 0");
        Due.is("high x -1", Seen.sizes(new TagTrees(HIGH, -1)), "32 1 6 63 0 0 0 0");
        Due.is("all 0", Seen.state(new TagTrees(2, 2)),
            "2 2 2 5 0 0 0 0 bits  | 0 0 0 -1 | 0 0 0 -1 | 0 0 0 -1 | 0 0 0 -1 | 0 0 0");
    }

    private static void promise2Value() {
        TagTrees t = Trees.four();
        Due.is("value", t.value(0, 0, 1000), 3);
        Due.is("value again", t.value(0, 0, 0), 1000);
        Due.is("value of another leaf", t.value(1, 1, 4), 4);
        String before = Seen.state(t);
        Due.fails("value x low", INDEX, () -> t.value(-1, 0, 1));
        Due.fails("value x high", INDEX, () -> t.value(2, 0, 1));
        Due.fails("value y low", INDEX, () -> t.value(0, -1, 1));
        Due.fails("value y high", INDEX, () -> t.value(0, 2, 1));
        Due.fails("value v low", ARGUMENT, () -> t.value(0, 0, -1));
        Due.fails("value v high", ARGUMENT, () -> t.value(0, 0, 1001));
        Due.fails("value, place before v", INDEX, () -> t.value(HIGH, LOW, -1));
        Due.is("value that throws", Seen.state(t), before);

        Due.is("nothing to tell", t.encode(0, 0, 0), 0);
        Due.is("value after no bit", t.value(0, 0, 5), 0);
        t.feed(1);
        Due.is("value after a bit fed", t.value(0, 0, 6), 5);
        t.encode(0, 0, 1);
        String told = Seen.state(t);
        Due.fails("value after a bit", STATE, () -> t.value(0, 0, 1));
        Due.fails("value, v before the state", ARGUMENT, () -> t.value(0, 0, 1001));
        Due.fails("value, place before the state", INDEX, () -> t.value(0, 2, 1));
        Due.is("value that throws, later", Seen.state(t), told);
        t.reset();
        Due.is("value after reset", t.value(0, 0, 7), 6);
    }

    private static void promise3Values() {
        TagTrees t = new TagTrees(3, 2);
        Due.is("values", t.values(1, 0, 4, 10, 5), 4);
        int[] want = {0, 10, 15, 20, 25, 0};
        for (int k = 0; k < 6; k++) {
            Due.is("values, leaf " + k, t.least(0, k % 3, k / 3), want[k]);
        }
        Due.is("values beyond the end", t.values(1, 1, HIGH, 7, 0), 2);
        Due.is("values, none", t.values(0, 0, 0, 999, 0), 0);
        Due.is("values, none changed", t.least(0, 0, 0), 0);
        Due.is("values, downward", t.values(0, 0, 6, 1500, -400), 6);
        int[] brought = {1000, 1000, 700, 300, 0, 0};
        for (int k = 0; k < 6; k++) {
            Due.is("values brought to 0 .. 1000, leaf " + k, t.least(0, k % 3, k / 3), brought[k]);
        }
        t.values(0, 0, 6, HIGH, HIGH);
        Due.is("values without wrap-around", t.least(2, 0, 0), 1000);
        t.values(0, 0, 6, LOW, LOW);
        Due.is("values without wrap-around below", t.least(0, 1, 1), 0);
        TagTrees far = new TagTrees(32, 32);
        Due.is("values, all", far.values(0, 0, 1024, LOW, 2099203), 1024);
        Due.is("values, last", far.least(0, 31, 31), 1000);
        Due.is("values, the one before", far.least(0, 30, 31), 0);

        TagTrees f = Trees.four();
        String before = Seen.state(f);
        Due.fails("values x high", INDEX, () -> f.values(2, 0, 1, 1, 1));
        Due.fails("values y low", INDEX, () -> f.values(0, -1, 1, 1, 1));
        Due.fails("values n low", ARGUMENT, () -> f.values(0, 0, -1, 1, 1));
        Due.fails("values, place before n", INDEX, () -> f.values(0, 2, -1, 1, 1));
        Due.is("values that throws", Seen.state(f), before);
        f.encode(0, 0, 1);
        String told = Seen.state(f);
        Due.fails("values after a bit", STATE, () -> f.values(0, 0, 1, 1, 1));
        Due.fails("no values after a bit", STATE, () -> f.values(0, 0, 0, 1, 1));
        Due.fails("values, n before the state", ARGUMENT, () -> f.values(0, 0, -1, 1, 1));
        Due.is("values that throws, later", Seen.state(f), told);
    }

    private static void promise4Encode() {
        TagTrees t = Trees.four();
        Due.is("encode up to 0", t.encode(0, 0, 0), 0);
        Due.is("encode up to 1", t.encode(0, 0, 1), 1);
        Due.is("root not known yet", Seen.sizes(t), "2 2 2 5 1 0 0 0");
        Due.is("encode up to 3", t.encode(0, 0, 3), 3);
        Due.is("encode the same", t.encode(0, 0, 3), 0);
        Due.is("encode lower", t.encode(0, 0, 1), 0);
        Due.is("encode another leaf", t.encode(1, 0, 3), 1);
        Due.is("encode beyond its value", t.encode(0, 0, 1001), 1);
        Due.is("encode bits", Seen.bits(t), "010011");
        String before = Seen.state(t);
        Due.fails("encode x high", INDEX, () -> t.encode(2, 0, 1));
        Due.fails("encode y low", INDEX, () -> t.encode(0, LOW, 1));
        Due.fails("encode threshold low", ARGUMENT, () -> t.encode(0, 0, -1));
        Due.fails("encode threshold high", ARGUMENT, () -> t.encode(0, 0, 1002));
        Due.fails("encode, place first", INDEX, () -> t.encode(-1, 0, 1002));
        Due.is("encode that throws", Seen.state(t), before);

        TagTrees one = new TagTrees(1, 1);
        one.value(0, 0, 1000);
        Due.is("encode all zeros", one.encode(0, 0, 1000), 1000);
        Due.is("not known yet", one.told(6), 0);
        Due.is("encode the one", one.encode(0, 0, 1001), 1);
        Due.is("known", one.told(6), 1);
    }

    private static void promise4Propagation() {
        TagTrees t = Trees.four();
        t.encode(0, 0, 9);
        Due.is("a leaf that was not told keeps its bound", t.bound(true, 0, 1, 1), 0);
        Due.is("told up to 0", t.encode(1, 1, 0), 0);
        Due.is("its bound is that of the root", t.bound(true, 0, 1, 1), 1);
        TagTrees deep = new TagTrees(4, 4);
        deep.values(0, 0, 16, 5, 0);
        deep.encode(0, 0, 4);
        deep.encode(3, 3, 2);
        Due.is("two levels down", deep.bound(true, 0, 3, 3), 4);
        Due.is("no bits for it", Seen.bits(deep), "0000");
    }

    private static void promise5Cost() {
        TagTrees t = Trees.four();
        String before = Seen.state(t);
        Due.is("cost up to 0", t.cost(1, 1, 0), 0);
        Due.is("cost up to 1", t.cost(1, 1, 1), 1);
        Due.is("cost up to 3", t.cost(1, 1, 3), 4);
        Due.is("cost up to 1001", t.cost(1, 1, 1001), 6);
        Due.is("cost tells nothing", Seen.state(t), before);
        t.encode(0, 0, 2);
        String told = Seen.state(t);
        Due.is("cost later", t.cost(1, 1, 1001), 4);
        Due.is("cost of a leaf told", t.cost(0, 0, 2), 0);
        Due.fails("cost x high", INDEX, () -> t.cost(2, 0, 1));
        Due.fails("cost y low", INDEX, () -> t.cost(0, -1, 1));
        Due.fails("cost threshold low", ARGUMENT, () -> t.cost(0, 0, -1));
        Due.fails("cost threshold high", ARGUMENT, () -> t.cost(0, 0, 1002));
        Due.fails("cost, place first", INDEX, () -> t.cost(0, 2, -1));
        Due.is("cost changes nothing", Seen.state(t), told);
        Due.is("cost is what encode tells", t.encode(1, 1, 1001), 4);
        TagTrees f = Trees.full();
        Due.is("cost beyond the limit", f.cost(1, 1, 1001), 925);
    }

    private static void promise6EncodeAll() {
        TagTrees rows = Trees.four();
        Due.is("encodeAll, rows", rows.encodeAll(0, 3), 9);
        Due.is("rows' bits", Seen.bits(rows), "010010100");
        TagTrees columns = Trees.four();
        Due.is("encodeAll, columns", columns.encodeAll(1, 3), 9);
        Due.is("columns' bits", Seen.bits(columns), "010001100");
        TagTrees quarters = new TagTrees(3, 2);
        quarters.values(0, 0, 6, 0, 1);
        Due.is("encodeAll, quarters", quarters.encodeAll(2, 3), 16);
        Due.is("quarters' bits", Seen.bits(quarters), "111" + "01" + "000" + "000" + "001" + "1" + "0");
        Due.is("encodeAll again", quarters.encodeAll(0, 3), 0);
        String before = Seen.state(rows);
        Due.fails("encodeAll order low", ARGUMENT, () -> rows.encodeAll(-1, 1));
        Due.fails("encodeAll order high", ARGUMENT, () -> rows.encodeAll(3, 1));
        Due.fails("encodeAll threshold low", ARGUMENT, () -> rows.encodeAll(0, -1));
        Due.fails("encodeAll threshold high", ARGUMENT, () -> rows.encodeAll(2, 1002));
        Due.is("encodeAll that throws", Seen.state(rows), before);
        Due.is("encodeAll, the rest", rows.encodeAll(2, 1001), 3);
        Due.is("all known", rows.told(6), 5);
        Due.fails("values after encodeAll", STATE, () -> rows.value(0, 0, 0));
    }

    private static void promise7BitAt() {
        TagTrees t = Trees.four();
        Due.fails("bitAt, none", INDEX, () -> t.bitAt(0));
        t.encode(1, 0, 2);
        Due.is("bitAt 0", t.bitAt(0), 0);
        Due.is("bitAt 1", t.bitAt(1), 1);
        Due.is("bitAt 2", t.bitAt(2), 1);
        Due.fails("bitAt behind the last", INDEX, () -> t.bitAt(3));
        Due.fails("bitAt below", INDEX, () -> t.bitAt(-1));
        Due.fails("bitAt high", INDEX, () -> t.bitAt(HIGH));
        t.pass(3);
        t.decode(1, 0, 2);
        Due.is("bitAt of a bit taken", t.bitAt(1), 1);
        TagTrees f = Trees.full();
        Due.is("bitAt, last", f.bitAt(39999), 0);
        Due.is("bitAt, one of the first", f.bitAt(5), 1);
        Due.fails("bitAt, 40000", INDEX, () -> f.bitAt(40000));
    }

    private static void promise8Feed() {
        TagTrees t = Trees.four();
        Due.is("feed 0", t.feed(0), 1);
        Due.is("feed 1", t.feed(1), 2);
        String before = Seen.state(t);
        Due.fails("feed 2", ARGUMENT, () -> t.feed(2));
        Due.fails("feed -1", ARGUMENT, () -> t.feed(-1));
        Due.is("feed that throws", Seen.state(t), before);
        Due.is("fed bits are not told", t.told(4), 0);
        t.decode(0, 0, 1);
        Due.is("feed after one is taken", t.feed(1), 2);
        Due.is("fed bits come in turn", t.decode(0, 0, 2), 1);
        Due.is("what they say", t.known(0, 0), 1);
    }

    private static void promise9Pass() {
        TagTrees t = Trees.four();
        Due.is("pass, none told", t.pass(5), 0);
        t.encode(1, 0, 2);
        Due.is("pass 0", t.pass(0), 0);
        Due.is("pass 2", t.pass(2), 2);
        Due.is("waiting", t.told(5), 2);
        Due.is("pass the rest", t.pass(HIGH), 1);
        Due.is("pass, none left", t.pass(1), 0);
        String before = Seen.state(t);
        Due.fails("pass -1", ARGUMENT, () -> t.pass(-1));
        Due.fails("pass low", ARGUMENT, () -> t.pass(LOW));
        Due.is("pass that throws", Seen.state(t), before);
        t.encode(1, 1, 2);
        Due.is("pass what came since", t.pass(9), 1);
        Due.is("decode by bits passed", t.decode(1, 0, 2) + " " + t.known(1, 0), "1 1");
        Due.is("decode by the last", t.decode(1, 1, 2) + " " + t.known(1, 1), "0 -3");
        TagTrees behind = Trees.four();
        behind.feed(0);
        behind.feed(0);
        behind.encode(1, 0, 2);
        Due.is("pass behind those fed", behind.pass(9), 3);
        behind.decode(0, 0, 4);
        Due.is("root by those fed, then passed", behind.bound(false, 1, 0, 0), 3);
    }

    private static void promise10Decode() {
        TagTrees t = Trees.four();
        t.encode(0, 0, 4);
        t.encode(1, 0, 4);
        Due.is("what is told", Seen.bits(t), "010011");
        String before = Seen.state(t);
        Due.is("decode without bits", t.decode(0, 0, 4), -2);
        Due.is("it changes nothing", Seen.state(t), before);
        t.pass(4);
        before = Seen.state(t);
        Due.is("decode without bits enough", t.decode(0, 0, 4), -2);
        Due.is("nothing is taken", Seen.state(t), before);
        Due.is("decode less", t.decode(0, 0, 3), 0);
        Due.is("decode up to 0", t.decode(0, 0, 0), 0);
        t.pass(9);
        Due.is("decode the rest", t.decode(0, 0, 4), 1);
        Due.is("decode its value", t.decode(0, 0, 3), 0);
        Due.is("decode above it", t.decode(0, 0, 1001), 1);
        Due.is("decode another", t.decode(1, 0, 2), 1);
        Due.is("bits left", t.told(5), 0);
        String told = Seen.state(t);
        Due.fails("decode x high", INDEX, () -> t.decode(2, 0, 1));
        Due.fails("decode y low", INDEX, () -> t.decode(0, -1, 1));
        Due.fails("decode threshold low", ARGUMENT, () -> t.decode(0, 0, -1));
        Due.fails("decode threshold high", ARGUMENT, () -> t.decode(0, 0, 1002));
        Due.fails("decode, place first", INDEX, () -> t.decode(0, 2, 1002));
        Due.is("decode that throws", Seen.state(t), told);
        Due.is("decode that waits", t.decode(1, 1, 2), -2);
        Due.is("not even bounds change", Seen.state(t), told);
        Due.is("decode up to 0 needs no bit", t.decode(1, 1, 0), 0);
        Due.is("but brings the bound", t.known(1, 1), -2);
    }

    private static void promise10Zeros() {
        TagTrees t = new TagTrees(1, 1);
        t.value(0, 0, 1000);
        t.encode(0, 0, 1000);
        t.pass(1000);
        t.feed(0);
        Due.is("zeros to the end", t.decode(0, 0, 1001), 0);
        Due.is("a bound of 1001", t.known(0, 0), -1002);
        Due.is("no bit is wanted any more", t.decode(0, 0, 1001), 0);
    }

    private static void promise11DecodeAll() {
        TagTrees t = Trees.four();
        t.encodeAll(1, 3);
        Due.is("decodeAll up to 0", t.decodeAll(0, 0), 4);
        Due.is("decodeAll without bits", t.decodeAll(1, 3), 0);
        t.pass(5);
        Due.is("decodeAll, bits for one leaf", t.decodeAll(1, 3), 1);
        Due.is("bits left for another", t.told(5), 1);
        t.pass(1);
        Due.is("decodeAll, with the one told before", t.decodeAll(1, 3), 2);
        Due.is("by columns", t.known(0, 1) + " " + t.known(1, 0), "2 -1");
        t.pass(99);
        Due.is("decodeAll, all", t.decodeAll(1, 3), 4);
        Due.is("what it found", t.known(0, 0) + " " + t.known(1, 0) + " " + t.known(0, 1) + " " + t.known(1, 1),
            "-4 1 2 -4");
        String before = Seen.state(t);
        Due.fails("decodeAll order low", ARGUMENT, () -> t.decodeAll(-1, 1));
        Due.fails("decodeAll order high", ARGUMENT, () -> t.decodeAll(3, 1));
        Due.fails("decodeAll threshold low", ARGUMENT, () -> t.decodeAll(0, -1));
        Due.fails("decodeAll threshold high", ARGUMENT, () -> t.decodeAll(0, 1002));
        Due.is("decodeAll that throws", Seen.state(t), before);
        for (int order = 0; order < 3; order++) {
            TagTrees far = new TagTrees(7, 5);
            far.values(0, 0, 35, 990, -23);
            far.encodeAll(order, 1001);
            far.pass(40000);
            Due.is("decodeAll of order " + order, far.decodeAll(order, 1001), 35);
            for (int k = 0; k < 35; k++) {
                Due.is("leaf " + k, far.known(k % 7, k / 7), far.least(0, k % 7, k / 7));
            }
        }
    }

    private static void promise12Known() {
        TagTrees t = Trees.four();
        Due.is("known, nothing", t.known(1, 1), -1);
        t.encodeAll(0, 1001);
        Due.is("known to the coder only", t.known(1, 1), -1);
        t.pass(99);
        t.decode(0, 0, 3);
        Due.is("known up to 3", t.known(0, 0), -4);
        t.decode(0, 0, 4);
        Due.is("known", t.known(0, 0), 3);
        Due.is("known, other leaf", t.known(1, 0), -1);
        Due.fails("known x high", INDEX, () -> t.known(2, 0));
        Due.fails("known x low", INDEX, () -> t.known(-1, 0));
        Due.fails("known y high", INDEX, () -> t.known(0, 2));
        Due.fails("known y low", INDEX, () -> t.known(0, LOW));
        TagTrees zero = new TagTrees(1, 1);
        zero.feed(1);
        zero.decode(0, 0, 1);
        Due.is("known 0", zero.known(0, 0), 0);
    }

    private static void promise13Bound() {
        TagTrees t = Trees.four();
        t.encode(1, 1, 3);
        t.feed(0);
        t.feed(0);
        t.decode(1, 1, 2);
        Due.is("coder's root", t.bound(true, 1, 0, 0), 1);
        Due.is("coder's leaf", t.bound(true, 0, 1, 1), 3);
        Due.is("coder's other leaf", t.bound(true, 0, 0, 1), 0);
        Due.is("decoder's root", t.bound(false, 1, 0, 0), 2);
        Due.is("decoder's leaf", t.bound(false, 0, 1, 1), 2);
        Due.is("decoder's other leaf", t.bound(false, 0, 1, 0), 0);
        for (boolean coder : new boolean[] {true, false}) {
            Due.fails("bound level high", INDEX, () -> t.bound(coder, 2, 0, 0));
            Due.fails("bound level low", INDEX, () -> t.bound(coder, -1, 0, 0));
            Due.fails("bound level very high", INDEX, () -> t.bound(coder, HIGH, 0, 0));
            Due.fails("bound x of the root", INDEX, () -> t.bound(coder, 1, 1, 0));
            Due.fails("bound y of the root", INDEX, () -> t.bound(coder, 1, 0, 1));
            Due.fails("bound x low", INDEX, () -> t.bound(coder, 0, -1, 0));
            Due.fails("bound y low", INDEX, () -> t.bound(coder, 0, 0, -1));
            Due.fails("bound y high", INDEX, () -> t.bound(coder, 0, 0, 2));
            Due.fails("bound above the highest root", INDEX, () -> new TagTrees(32, 32).bound(coder, 6, 0, 0));
        }
    }

    private static void promise14Least() {
        TagTrees t = new TagTrees(5, 3);
        t.values(0, 0, 15, 100, -5);
        Due.is("a leaf", t.least(0, 4, 1), 55);
        Due.is("least of four", t.least(1, 0, 0), 70);
        Due.is("least of two", t.least(1, 2, 0), 55);
        Due.is("least of one", t.least(1, 2, 1), 30);
        Due.is("two levels up", t.least(2, 0, 0), 35);
        Due.is("two levels up, the edge", t.least(2, 1, 0), 30);
        Due.is("the root", t.least(3, 0, 0), 30);
        t.value(4, 2, 1000);
        Due.is("the root, raised", t.least(3, 0, 0), 35);
        Due.is("the edge, raised", t.least(2, 1, 0), 55);
        t.value(0, 0, 1);
        Due.is("the root, lowered", t.least(3, 0, 0), 1);
        Due.fails("least level high", INDEX, () -> t.least(4, 0, 0));
        Due.fails("least level low", INDEX, () -> t.least(-1, 0, 0));
        Due.fails("least x high", INDEX, () -> t.least(1, 3, 0));
        Due.fails("least y high", INDEX, () -> t.least(1, 0, 2));
        Due.fails("least x low", INDEX, () -> t.least(0, LOW, 0));
        Due.fails("least y low", INDEX, () -> t.least(0, 0, -1));
        TagTrees tall = new TagTrees(32, 32);
        Due.is("the highest root", tall.least(5, 0, 0), 0);
        Due.fails("least above the highest root", INDEX, () -> tall.least(6, 0, 0));
    }

    private static void promise15Leaf() {
        TagTrees t = new TagTrees(3, 5);
        int[][] want = {
            {0, 1, 2, 3, 4, 5, 6, 7, 8, 9, 10, 11, 12, 13, 14},
            {0, 3, 6, 9, 12, 1, 4, 7, 10, 13, 2, 5, 8, 11, 14},
            {0, 1, 3, 4, 2, 5, 6, 7, 9, 10, 8, 11, 12, 13, 14},
        };
        for (int order = 0; order < 3; order++) {
            int o = order;
            for (int k = 0; k < 15; k++) {
                Due.is("leaf " + k + " of order " + o, t.leaf(o, k), want[o][k]);
            }
            Due.fails("leaf 15", INDEX, () -> t.leaf(o, 15));
            Due.fails("leaf -1", INDEX, () -> t.leaf(o, -1));
            Due.fails("leaf high", INDEX, () -> t.leaf(o, HIGH));
        }
        Due.fails("leaf, order low", ARGUMENT, () -> t.leaf(-1, 0));
        Due.fails("leaf, order high", ARGUMENT, () -> t.leaf(3, 0));
        Due.fails("leaf, order first", ARGUMENT, () -> t.leaf(HIGH, LOW));
        TagTrees line = new TagTrees(32, 1);
        Due.is("leaf of a line", line.leaf(2, 31) + " " + line.leaf(1, 30), "31 30");
    }

    private static void promise16Told() {
        TagTrees t = Trees.four();
        t.encode(1, 0, 2);
        t.pass(3);
        t.feed(0);
        t.decode(0, 0, 2);
        Due.is("told", Seen.sizes(t), "2 2 2 5 3 1 2 2");
        t.decode(1, 0, 2);
        Due.is("told later", Seen.sizes(t), "2 2 2 5 3 0 2 2");
        Due.is("told 8", t.told(8), -1);
        Due.is("told -1", t.told(-1), -1);
        Due.is("told high", t.told(HIGH), -1);
        Due.is("told low", t.told(LOW), -1);
    }

    private static void promise17Reset() {
        TagTrees t = Trees.four();
        t.encodeAll(0, 1001);
        t.pass(7);
        t.decode(0, 0, 3);
        t.reset();
        Due.is("reset", Seen.state(t),
            "2 2 2 5 0 0 0 0 bits  | 3 0 0 -1 | 1 0 0 -1 | 2 0 0 -1 | 4 0 0 -1 | 1 0 0");
        Due.is("nothing to pass", t.pass(9), 0);
        Due.is("value after reset", t.value(0, 0, 9), 3);
        Due.is("encode anew", t.encode(1, 0, 2), 3);
        Due.is("pass anew", t.pass(9), 3);
        Due.is("decode anew", t.decode(1, 0, 2), 1);
    }

    private static void limitOfBitsTold() {
        TagTrees t = Trees.dear();
        Due.fails("encodeAll, too many", TOO_MANY, () -> t.encodeAll(0, 77));
        Due.fails("encodeAll, very many", TOO_MANY, () -> t.encodeAll(2, 1001));
        Due.fails("encodeAll, order first", ARGUMENT, () -> t.encodeAll(3, 1001));
        Due.is("nothing told", Seen.sizes(t), "32 32 6 1365 0 0 0 0");
        Due.is("no bound", t.bound(true, 0, 0, 1), 0);
        Due.is("value still free", t.value(0, 1, 1000), 1000);
        Due.is("encodeAll, not too many", t.encodeAll(1, 76), 39765);
        Due.fails("encode, one too many", TOO_MANY, () -> t.encode(0, 1, 312));
        Due.fails("encode, threshold first", ARGUMENT, () -> t.encode(0, 1, 1002));
        Due.is("nothing more told", t.told(4), 39765);
        Due.is("the bound stays", t.bound(true, 0, 0, 1), 76);
        Due.is("encode, just so many", t.encode(0, 1, 311), 235);
        Due.is("40000 bits", t.told(4), 40000);
        Due.is("encode, no more", t.encode(0, 1, 311), 0);
        Due.is("encodeAll, no more", t.encodeAll(0, 76), 0);
        Due.fails("encode, one more", TOO_MANY, () -> t.encode(0, 1, 312));
        Due.fails("encodeAll, more", TOO_MANY, () -> t.encodeAll(0, 77));
        t.reset();
        Due.is("room after reset", t.encodeAll(0, 1), 1365);
    }

    private static void limitOfBitsWaiting() {
        TagTrees t = Trees.full();
        Due.is("feed before", t.feed(1), 1);
        Due.fails("pass, one too many", TOO_MANY, () -> t.pass(40000));
        Due.fails("pass, all", TOO_MANY, () -> t.pass(HIGH));
        Due.is("nothing passed", t.told(5), 1);
        Due.is("pass, just so many", t.pass(39999), 39999);
        Due.fails("pass, one more", TOO_MANY, () -> t.pass(1));
        Due.is("pass none", t.pass(0), 0);
        Due.fails("feed, one more", TOO_MANY, () -> t.feed(0));
        Due.fails("feed, bit first", ARGUMENT, () -> t.feed(2));
        Due.is("40000 wait", t.told(5), 40000);
        // With the 1 that was fed first, the decoder reads one bit behind the coder: all ones here.
        Due.is("decode takes six", t.decode(0, 0, 1) + " " + t.told(5), "1 39994");
        Due.is("pass the last", t.pass(2), 1);
        for (int i = 0; i < 5; i++) {
            t.feed(1);
        }
        Due.fails("feed, full again", TOO_MANY, () -> t.feed(0));
        Due.is("the bits keep their order", t.decode(1, 0, 1) + " " + t.told(5), "1 39999");

        TagTrees round = Trees.full();
        round.pass(40000);
        Due.is("decodeAll", round.decodeAll(0, 76), 1024);
        Due.is("left", round.told(5), 235);
        Trees.feedAll(round, "1");
        Due.is("across the end of the row", round.decode(0, 1, 312) + " " + round.known(0, 1), "1 311");
        Due.is("none left", round.told(5), 0);
    }
}
