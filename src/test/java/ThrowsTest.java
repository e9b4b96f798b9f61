import java.util.ArrayList;
import java.util.List;
import java.util.function.Supplier;

/** A test for each sentence of the terms on exceptions: where each is due, which goes first, what stays. */
public final class ThrowsTest {
    private interface TreeCall {
        int answer(TagTrees t);
    }

    /** A call that a tree in some state must refuse. */
    private record Refused(String text, Supplier<TagTrees> state, Class<? extends RuntimeException> want,
        TreeCall call) {
    }

    /** Places that are no leaf of four by four, though some have a leaf's number, or wrap around to one. */
    private static final int[][] NO_LEAVES = {{-1, 0}, {4, 0}, {0, -1}, {0, 4}, {-1, 1}, {4, 3}, {3, 4}, {5, 0},
        {Due.LOW, 0}, {Due.HIGH, 0}, {0, Due.LOW}, {0, Due.HIGH}, {0, 1 << 30}, {1 << 30, 0}, {1, -(1 << 30)},
        {-4, 1}, {4, -1}, {32, 0}, {0, 32}, {Due.LOW, Due.HIGH}, {Due.HIGH, Due.LOW}};
    private static final int[] NO_THRESHOLDS = {-1, 1002, -1001, 1 << 16, Due.LOW, Due.HIGH};
    private static final int[] NO_ORDERS = {-1, 3, 4, -3, Due.LOW, Due.HIGH};

    public static void main(String[] args) {
        Due.sentence("Terms", "IndexOutOfBounds: there is no such leaf", ThrowsTest::noSuchLeaf);
        Due.sentence("Terms", "IndexOutOfBounds: there is no such .. node", ThrowsTest::noSuchNode);
        Due.sentence("Terms", "IndexOutOfBounds: there is no such .. level", ThrowsTest::noSuchLevel);
        Due.sentence("Terms", "IndexOutOfBounds: there is no such .. bit", ThrowsTest::noSuchBit);
        Due.sentence("Terms", "IllegalArgument: another number is none that is told", ThrowsTest::noSuchNumber);
        Due.sentence("Terms", "IllegalState: bits were told already", ThrowsTest::bitsWereTold);
        Due.sentence("Terms", "(one at least, by encode or encodeAll)", ThrowsTest::oneAtLeast);
        Due.sentence("Terms", "UnsupportedOperation: there would be more bits told .. than 40000",
            ThrowsTest::tooManyTold);
        Due.sentence("Terms", "UnsupportedOperation: there would be more bits .. waiting, than 40000",
            ThrowsTest::tooManyWaiting);
        Due.sentence("Terms", "Of several that a call names, the first one", ThrowsTest::theFirstOne);
        Due.sentence("Terms", "A call that throws changes nothing", ThrowsTest::changesNothing);
        Due.end();
    }

    private static void noSuchLeaf() {
        for (int[] place : NO_LEAVES) {
            int x = place[0];
            int y = place[1];
            String where = " at " + x + ", " + y;
            TagTrees t = new TagTrees(4, 4);
            Due.fails("value" + where, Due.INDEX, () -> t.value(x, y, 1));
            Due.fails("values" + where, Due.INDEX, () -> t.values(x, y, 1, 1, 1));
            Due.fails("no values" + where, Due.INDEX, () -> t.values(x, y, 0, 1, 1));
            Due.fails("encode" + where, Due.INDEX, () -> t.encode(x, y, 1));
            Due.fails("encode up to 0" + where, Due.INDEX, () -> t.encode(x, y, 0));
            Due.fails("cost" + where, Due.INDEX, () -> t.cost(x, y, 1));
            Due.fails("cost up to 0" + where, Due.INDEX, () -> t.cost(x, y, 0));
            Due.fails("decode" + where, Due.INDEX, () -> t.decode(x, y, 1));
            Due.fails("decode up to 0" + where, Due.INDEX, () -> t.decode(x, y, 0));
            Due.fails("known" + where, Due.INDEX, () -> t.known(x, y));
            Due.fails("bound" + where, Due.INDEX, () -> t.bound(true, 0, x, y));
            Due.fails("least" + where, Due.INDEX, () -> t.least(0, x, y));
        }
        for (int k : new int[] {-1, 16, 17, 1023, 1024, Due.LOW, Due.HIGH}) {
            for (int order = 0; order < 3; order++) {
                int o = order;
                Due.fails("leaf " + k + " of order " + o, Due.INDEX, () -> new TagTrees(4, 4).leaf(o, k));
            }
        }
    }

    private static void noSuchNode() {
        // Five by three leaves: 5 x 3, 3 x 2, 2 x 1 and 1 x 1 nodes.
        int[][] levels = {{5, 3}, {3, 2}, {2, 1}, {1, 1}};
        for (int level = 0; level < levels.length; level++) {
            int across = levels[level][0];
            int down = levels[level][1];
            int[][] none = {{across, 0}, {0, down}, {-1, 0}, {0, -1}, {-1, down - 1}, {across, down}, {Due.HIGH, 0},
                {0, Due.HIGH}, {Due.LOW, 0}, {0, Due.LOW}, {1 << 30, 0}, {0, 1 << 30}, {across - 1, down}};
            for (int[] place : none) {
                noNodeAt(new TagTrees(5, 3), level, place[0], place[1]);
            }
            Due.is("the last node of level " + level, new TagTrees(5, 3).least(level, across - 1, down - 1), 0);
        }
    }

    private static void noNodeAt(TagTrees t, int level, int x, int y) {
        String where = " at " + x + ", " + y + " of level " + level;
        Due.fails("least" + where, Due.INDEX, () -> t.least(level, x, y));
        Due.fails("coder's bound" + where, Due.INDEX, () -> t.bound(true, level, x, y));
        Due.fails("decoder's bound" + where, Due.INDEX, () -> t.bound(false, level, x, y));
    }

    private static void noSuchLevel() {
        for (int level : new int[] {-1, -2, 4, 5, 6, 7, 31, 32, 33, 64, Due.LOW, Due.HIGH}) {
            noNodeAt(new TagTrees(5, 3), level, 0, 0);
        }
        noNodeAt(new TagTrees(1, 1), 1, 0, 0);
        noNodeAt(new TagTrees(32, 1), 6, 0, 0);
        noNodeAt(new TagTrees(32, 32), 6, 0, 0);
        Due.is("the highest", new TagTrees(32, 32).least(5, 0, 0), 0);
    }

    private static void noSuchBit() {
        TagTrees t = Trees.four();
        Due.fails("none is told", Due.INDEX, () -> t.bitAt(0));
        t.feed(1);
        Due.fails("one is fed, none told", Due.INDEX, () -> t.bitAt(0));
        t.encode(0, 0, 3);
        Due.is("the first and the last", t.bitAt(0) + " " + t.bitAt(1) + " " + t.bitAt(3), "0 1 0");
        for (int i : new int[] {-1, 4, 5, 32, 40000, Due.LOW, Due.HIGH}) {
            Due.fails("bit " + i, Due.INDEX, () -> t.bitAt(i));
        }
        t.reset();
        Due.fails("none is told any more", Due.INDEX, () -> t.bitAt(0));
        TagTrees full = Trees.full();
        Due.is("the last of 40000", full.bitAt(39999), 0);
        Due.fails("the one behind it", Due.INDEX, () -> full.bitAt(40000));
        Due.fails("the one ahead of the first", Due.INDEX, () -> full.bitAt(-1));
    }

    private static void noSuchNumber() {
        for (int threshold : NO_THRESHOLDS) {
            TagTrees t = Trees.underWay();
            Due.fails("encode up to " + threshold, Due.ARGUMENT, () -> t.encode(0, 0, threshold));
            Due.fails("cost up to " + threshold, Due.ARGUMENT, () -> t.cost(0, 0, threshold));
            Due.fails("encodeAll up to " + threshold, Due.ARGUMENT, () -> t.encodeAll(0, threshold));
            Due.fails("decode up to " + threshold, Due.ARGUMENT, () -> t.decode(0, 0, threshold));
            Due.fails("decodeAll up to " + threshold, Due.ARGUMENT, () -> t.decodeAll(0, threshold));
        }
        for (int order : NO_ORDERS) {
            TagTrees t = Trees.underWay();
            Due.fails("encodeAll in order " + order, Due.ARGUMENT, () -> t.encodeAll(order, 0));
            Due.fails("decodeAll in order " + order, Due.ARGUMENT, () -> t.decodeAll(order, 0));
            Due.fails("leaf of order " + order, Due.ARGUMENT, () -> t.leaf(order, 0));
        }
        for (int number : new int[] {-1, -2, -40000, Due.LOW}) {
            TagTrees t = Trees.four();
            Due.fails("value " + number, Due.ARGUMENT, () -> t.value(0, 0, number));
            Due.fails("so many values: " + number, Due.ARGUMENT, () -> t.values(0, 0, number, 1, 1));
            Due.fails("a bit " + number, Due.ARGUMENT, () -> t.feed(number));
            Due.fails("pass " + number, Due.ARGUMENT, () -> t.pass(number));
        }
        TagTrees t = Trees.four();
        Due.fails("value 1001", Due.ARGUMENT, () -> t.value(0, 0, 1001));
        Due.fails("value high", Due.ARGUMENT, () -> t.value(0, 0, Due.HIGH));
        Due.fails("a bit 2", Due.ARGUMENT, () -> t.feed(2));
        Due.fails("a bit high", Due.ARGUMENT, () -> t.feed(Due.HIGH));
    }

    private static void bitsWereTold() {
        for (int bits = 1; bits <= 3; bits++) {
            TagTrees t = Trees.one(1000);
            t.encode(0, 0, bits);
            Due.fails("value after " + bits + " bits", Due.STATE, () -> t.value(0, 0, 1));
            Due.fails("values after " + bits + " bits", Due.STATE, () -> t.values(0, 0, 1, 1, 1));
            Due.fails("no values after " + bits + " bits", Due.STATE, () -> t.values(0, 0, 0, 1, 1));
            Due.fails("the same value after " + bits + " bits", Due.STATE, () -> t.value(0, 0, 1000));
            t.pass(bits);
            t.decode(0, 0, bits);
            Due.fails("value after these are taken", Due.STATE, () -> t.value(0, 0, 1));
        }
        TagTrees all = new TagTrees(1, 1);
        all.encodeAll(0, 1);
        Due.fails("value after encodeAll", Due.STATE, () -> all.value(0, 0, 1));
        Due.fails("values after encodeAll", Due.STATE, () -> all.values(0, 0, 1, 1, 1));
        all.reset();
        Due.is("value after reset", all.value(0, 0, 1), 0);
        Due.fails("value of a full tree", Due.STATE, () -> Trees.full().value(0, 0, 1));
    }

    private static void oneAtLeast() {
        TagTrees t = Trees.dear();
        t.encode(5, 5, 0);
        t.encodeAll(2, 0);
        t.cost(5, 5, 1001);
        t.feed(1);
        t.pass(5);
        t.decode(0, 0, 1);
        Due.answerOf(() -> t.encode(5, 5, 1002));
        Due.answerOf(() -> t.encodeAll(2, 1001));
        Due.is("value, for no bit was told", t.value(5, 5, 7), 1000);
        Due.is("values, for no bit was told", t.values(0, 0, 2, 7, 0), 2);
        Due.is("values, none", t.values(0, 0, 0, 7, 0), 0);
        t.encode(5, 5, 1);
        Due.fails("value, for one was told", Due.STATE, () -> t.value(5, 5, 7));
    }

    private static void tooManyTold() {
        for (int order = 0; order < 3; order++) {
            int o = order;
            Due.fails("40001 at once", Due.TOO_MANY, () -> Trees.worth(40001).encodeAll(o, 1001));
            TagTrees t = Trees.worth(40000);
            Due.is("40000 at once", t.encodeAll(o, 1001), 40000);
            Due.is("bits told", t.told(4), 40000);
            Due.is("none more is needed", t.encodeAll(o, 1001) + t.encode(0, 0, 1001), 0);
        }
        TagTrees first = Trees.dear();
        first.encode(0, 1, 312);
        Due.fails("317 and 39684", Due.TOO_MANY, () -> first.encodeAll(1, 76));
        TagTrees last = Trees.dear();
        last.encode(0, 1, 311);
        Due.is("316 and 39684", last.encodeAll(1, 76), 39684);
        Due.fails("40000 and 1", Due.TOO_MANY, () -> last.encode(0, 1, 312));
        Due.fails("40000 and many", Due.TOO_MANY, () -> last.encode(2, 1, 1001));
        Due.fails("40000 and one of each", Due.TOO_MANY, () -> last.encodeAll(1, 77));
        Due.is("40000 and none", last.encode(0, 1, 311) + last.encode(2, 1, 76) + last.encodeAll(2, 76), 0);
        Due.fails("passing them on makes no room", Due.TOO_MANY, () -> {
            last.pass(40000);
            return last.encode(0, 1, 312);
        });
        last.reset();
        Due.is("reset makes room", last.encodeAll(0, 76), 39765);
        Due.fails("39765 and 236", Due.TOO_MANY, () -> last.encode(0, 1, 312));
        Due.is("39765 and 235", last.encode(0, 1, 311), 235);
    }

    private static void tooManyWaiting() {
        TagTrees t = Trees.full();
        Due.is("40000 at once", t.pass(40000) + " " + t.told(5), "40000 40000");
        Due.fails("40000 and 1", Due.TOO_MANY, () -> t.feed(0));
        Due.fails("40000 and a 1", Due.TOO_MANY, () -> t.feed(1));
        Due.is("40000 and none", t.pass(0) + t.pass(1) + t.pass(Due.HIGH), 0);
        TagTrees fed = Trees.full();
        fed.feed(1);
        Due.fails("1 and 40000", Due.TOO_MANY, () -> fed.pass(40000));
        Due.fails("1 and all", Due.TOO_MANY, () -> fed.pass(Due.HIGH));
        Due.is("none of them came", fed.told(5), 1);
        Due.is("1 and 39999", fed.pass(39999) + " " + fed.told(5), "39999 40000");
        Due.fails("40000 and the last", Due.TOO_MANY, () -> fed.pass(1));
        Due.fails("40000 and a fed one", Due.TOO_MANY, () -> fed.feed(1));
        Due.is("taken ones make room", fed.decode(0, 0, 1) + " " + fed.told(5), "1 39994");
        Due.is("for the last", fed.pass(Due.HIGH), 1);
        for (int i = 39996; i <= 40000; i++) {
            Due.is("for fed ones", fed.feed(0), i);
        }
        Due.fails("and no more", Due.TOO_MANY, () -> fed.feed(0));
    }

    private static List<Refused> ofSeveral() {
        List<Refused> all = new ArrayList<>();
        all.add(new Refused("value: leaf, number", Trees::four, Due.INDEX, t -> t.value(2, 0, 1001)));
        all.add(new Refused("value: leaf, bits told", Trees::underWay, Due.INDEX, t -> t.value(0, -1, 1)));
        all.add(new Refused("value: number, bits told", Trees::underWay, Due.ARGUMENT, t -> t.value(0, 0, -1)));
        all.add(new Refused("value: all", Trees::underWay, Due.INDEX, t -> t.value(-1, 0, -1)));
        all.add(new Refused("values: leaf, number", Trees::four, Due.INDEX, t -> t.values(0, 2, -1, 1, 1)));
        all.add(new Refused("values: leaf, bits told", Trees::underWay, Due.INDEX, t -> t.values(2, 0, 1, 1, 1)));
        all.add(new Refused("values: number, bits told", Trees::underWay, Due.ARGUMENT, t -> t.values(0, 0, -1, 1, 1)));
        all.add(new Refused("values: all", Trees::underWay, Due.INDEX, t -> t.values(-1, 0, Due.LOW, 1, 1)));
        all.add(new Refused("encode: leaf, threshold", Trees::four, Due.INDEX, t -> t.encode(2, 0, 1002)));
        all.add(new Refused("encode: leaf, too many", Trees::full, Due.INDEX, t -> t.encode(32, 1, 1001)));
        all.add(new Refused("encode: threshold, too many", Trees::full, Due.ARGUMENT, t -> t.encode(0, 1, 1002)));
        all.add(new Refused("encode: all", Trees::full, Due.INDEX, t -> t.encode(0, 32, 1002)));
        all.add(new Refused("cost: leaf, threshold", Trees::four, Due.INDEX, t -> t.cost(0, 2, -1)));
        all.add(new Refused("encodeAll: order, too many", Trees::full, Due.ARGUMENT, t -> t.encodeAll(3, 1001)));
        all.add(new Refused("encodeAll: threshold, too many", Trees::full, Due.ARGUMENT, t -> t.encodeAll(0, 1002)));
        all.add(new Refused("feed: bit, too many", Trees::fullTwice, Due.ARGUMENT, t -> t.feed(2)));
        all.add(new Refused("pass: number, too many", Trees::fullTwice, Due.ARGUMENT, t -> t.pass(-1)));
        all.add(new Refused("decode: leaf, threshold", Trees::underWay, Due.INDEX, t -> t.decode(-1, 0, 1002)));
        all.add(new Refused("leaf: order, leaf", Trees::four, Due.ARGUMENT, t -> t.leaf(3, 4)));
        all.add(new Refused("leaf: order, leaf, both low", Trees::four, Due.ARGUMENT, t -> t.leaf(-1, -1)));
        return all;
    }

    private static void theFirstOne() {
        for (Refused r : ofSeveral()) {
            TagTrees t = r.state().get();
            Due.fails(r.text(), r.want(), () -> r.call().answer(t));
        }
    }

    private static List<Refused> refusedByValuesAndLooks() {
        List<Refused> all = new ArrayList<>();
        all.add(new Refused("value, leaf", Trees::four, Due.INDEX, t -> t.value(2, 0, 9)));
        all.add(new Refused("value, number", Trees::four, Due.ARGUMENT, t -> t.value(0, 0, 1001)));
        all.add(new Refused("value, bits told", Trees::underWay, Due.STATE, t -> t.value(0, 0, 9)));
        all.add(new Refused("values, leaf", Trees::four, Due.INDEX, t -> t.values(2, 0, 2, 9, 9)));
        all.add(new Refused("values, number", Trees::four, Due.ARGUMENT, t -> t.values(0, 0, -1, 9, 9)));
        all.add(new Refused("values, bits told", Trees::underWay, Due.STATE, t -> t.values(0, 0, 4, 9, 9)));
        all.add(new Refused("cost, leaf", Trees::underWay, Due.INDEX, t -> t.cost(2, 0, 9)));
        all.add(new Refused("cost, threshold", Trees::underWay, Due.ARGUMENT, t -> t.cost(0, 0, 1002)));
        all.add(new Refused("bitAt", Trees::underWay, Due.INDEX, t -> t.bitAt(Due.HIGH)));
        all.add(new Refused("known", Trees::underWay, Due.INDEX, t -> t.known(2, 0)));
        all.add(new Refused("bound", Trees::underWay, Due.INDEX, t -> t.bound(false, 0, 2, 0)));
        all.add(new Refused("bound, level", Trees::underWay, Due.INDEX, t -> t.bound(true, 2, 0, 0)));
        all.add(new Refused("least", Trees::underWay, Due.INDEX, t -> t.least(1, 1, 0)));
        all.add(new Refused("leaf", Trees::underWay, Due.INDEX, t -> t.leaf(0, 4)));
        all.add(new Refused("leaf, order", Trees::underWay, Due.ARGUMENT, t -> t.leaf(3, 0)));
        return all;
    }

    private static List<Refused> refusedByBits() {
        List<Refused> all = new ArrayList<>();
        all.add(new Refused("encode, leaf", Trees::underWay, Due.INDEX, t -> t.encode(0, 2, 9)));
        all.add(new Refused("encode, threshold", Trees::underWay, Due.ARGUMENT, t -> t.encode(0, 0, 1002)));
        all.add(new Refused("encode, too many", Trees::full, Due.TOO_MANY, t -> t.encode(1, 3, 1001)));
        all.add(new Refused("encode, one too many", Trees::full, Due.TOO_MANY, t -> t.encode(0, 1, 312)));
        all.add(new Refused("encodeAll, order", Trees::underWay, Due.ARGUMENT, t -> t.encodeAll(3, 9)));
        all.add(new Refused("encodeAll, threshold", Trees::underWay, Due.ARGUMENT, t -> t.encodeAll(0, 1002)));
        all.add(new Refused("encodeAll, too many", Trees::dear, Due.TOO_MANY, t -> t.encodeAll(2, 1001)));
        all.add(new Refused("encodeAll, one too many", () -> Trees.worth(40001), Due.TOO_MANY, t -> t.encodeAll(1,
            1001)));
        all.add(new Refused("encodeAll, full", Trees::fullTwice, Due.TOO_MANY, t -> t.encodeAll(0, 77)));
        all.add(new Refused("feed, bit", Trees::underWay, Due.ARGUMENT, t -> t.feed(2)));
        all.add(new Refused("feed, too many", Trees::fullTwice, Due.TOO_MANY, t -> t.feed(0)));
        all.add(new Refused("pass, number", Trees::underWay, Due.ARGUMENT, t -> t.pass(-1)));
        all.add(new Refused("pass, too many", Trees::fullTwice, Due.TOO_MANY, t -> t.pass(1)));
        all.add(new Refused("pass, too many of many", Trees::fullAndOne, Due.TOO_MANY, t -> t.pass(40000)));
        all.add(new Refused("decode, leaf", Trees::underWay, Due.INDEX, t -> t.decode(2, 1, 2)));
        all.add(new Refused("decode, threshold", Trees::underWay, Due.ARGUMENT, t -> t.decode(0, 0, 1002)));
        all.add(new Refused("decodeAll, order", Trees::underWay, Due.ARGUMENT, t -> t.decodeAll(-1, 2)));
        all.add(new Refused("decodeAll, threshold", Trees::underWay, Due.ARGUMENT, t -> t.decodeAll(0, -1)));
        return all;
    }

    private static void changesNothing() {
        List<Refused> all = new ArrayList<>(refusedByValuesAndLooks());
        all.addAll(refusedByBits());
        all.addAll(ofSeveral());
        for (Refused r : all) {
            Due.fails(r.text(), r.want(), () -> r.call().answer(r.state().get()));
            String before = Seen.whole(r.state());
            String after = Seen.whole(() -> {
                TagTrees t = r.state().get();
                Due.answerOf(() -> r.call().answer(t));
                return t;
            });
            Due.is("whether all is as before: " + r.text(), after.equals(before), true);
        }
    }
}
