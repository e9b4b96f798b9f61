/** A test for each sentence of the promises 13 to 17, what can be seen and reset, at the edges that it names. */
public final class LooksEdgesTest {
    public static void main(String[] args) {
        promises13To15();
        promises16And17();
        Due.end();
    }

    private static void promises13To15() {
        Due.sentence("Promise 13", "The bound of a node, of the coder, or the decoder", LooksEdgesTest::boundOfNode);
        Due.sentence("Promise 13", "throws IndexOutOfBoundsException", LooksEdgesTest::boundThrows);
        Due.sentence("Promise 14", "The value of a node", LooksEdgesTest::valueOfNode);
        Due.sentence("Promise 14", "throws IndexOutOfBoundsException", LooksEdgesTest::leastThrows);
        Due.sentence("Promise 15", "Leaf k of an order: its number, row by row", LooksEdgesTest::leafOfOrder);
        Due.sentence("Promise 15", "IllegalArgument: the order is not 0 .. 2", LooksEdgesTest::leafOrder);
        Due.sentence("Promise 15", "throws .. IndexOutOfBoundsException", LooksEdgesTest::leafThrows);
    }

    private static void promises16And17() {
        Due.sentence("Promise 16", "Width (what = 0), height (1), levels (2), nodes (3)", LooksEdgesTest::toldShape);
        Due.sentence("Promise 16", "bits told (4)", LooksEdgesTest::toldBits);
        Due.sentence("Promise 16", "bits that wait (5)", LooksEdgesTest::toldWaiting);
        Due.sentence("Promise 16", "nodes known to the coder (6)", LooksEdgesTest::toldKnownToCoder);
        Due.sentence("Promise 16", "to the decoder (7)", LooksEdgesTest::toldKnownToDecoder);
        Due.sentence("Promise 16", "NONE for another what", LooksEdgesTest::toldAnother);
        Due.sentence("Promise 17", "No bits", LooksEdgesTest::resetBits);
        Due.sentence("Promise 17", "nothing is known, bounds are 0", LooksEdgesTest::resetKnown);
        Due.sentence("Promise 17", "values stay", LooksEdgesTest::resetValues);
    }

    private static void boundOfNode() {
        TagTrees t = new TagTrees(5, 3);
        t.values(0, 0, 15, 9, 0);
        t.value(4, 2, 2);
        t.encode(4, 0, 5);
        Due.is("the coder's", t.bound(true, 3, 0, 0) + " " + t.bound(true, 2, 1, 0) + " " + t.bound(true, 1, 2, 0)
            + " " + t.bound(true, 0, 4, 0), "2 2 5 5");
        Due.is("the decoder's", t.bound(false, 3, 0, 0) + " " + t.bound(false, 0, 4, 0), "0 0");
        Due.is("of other nodes", t.bound(true, 2, 0, 0) + " " + t.bound(true, 1, 2, 1) + " " + t.bound(true, 0, 4, 1),
            "0 0 0");
        Trees.feedAll(t, "0000");
        t.decode(0, 2, 4);
        Due.is("the decoder's, then", t.bound(false, 3, 0, 0) + " " + t.bound(false, 2, 0, 0) + " "
            + t.bound(false, 1, 0, 1) + " " + t.bound(false, 0, 0, 2), "4 4 4 4");
        Due.is("the coder's, then", t.bound(true, 3, 0, 0) + " " + t.bound(true, 0, 0, 2), "2 0");
        TagTrees high = Trees.one(1000);
        high.encode(0, 0, 1001);
        Due.is("the highest of the coder", high.bound(true, 0, 0, 0), 1000);
    }

    private static void boundThrows() {
        TagTrees t = new TagTrees(3, 2);
        int[][] nodes = {{-1, 0, 0}, {3, 0, 0}, {Due.LOW, 0, 0}, {Due.HIGH, 0, 0}, {0, 3, 0}, {0, 0, 2}, {0, -1, 0},
            {0, 0, -1}, {1, 2, 0}, {1, 0, 1}, {1, -1, 0}, {2, 1, 0}, {2, 0, 1}, {2, 0, -1}, {1, Due.HIGH, 0}, {1, 0,
                Due.LOW}};
        for (int[] n : nodes) {
            String where = " of " + n[0] + ", " + n[1] + ", " + n[2];
            Due.fails("coder's" + where, Due.INDEX, () -> t.bound(true, n[0], n[1], n[2]));
            Due.fails("decoder's" + where, Due.INDEX, () -> t.bound(false, n[0], n[1], n[2]));
        }
        Due.is("the last nodes", t.bound(true, 0, 2, 1) + t.bound(true, 1, 1, 0) + t.bound(false, 2, 0, 0), 0);
    }

    private static void valueOfNode() {
        TagTrees t = new TagTrees(3, 2);
        t.values(0, 0, 6, 1000, -1);
        Due.is("leaves", Seen.leaves(t), "1000 999 998 997 996 995");
        Due.is("of four", t.least(1, 0, 0), 996);
        Due.is("of two", t.least(1, 1, 0), 995);
        Due.is("the root", t.least(2, 0, 0), 995);
        t.encodeAll(0, 1001);
        t.pass(9);
        t.decode(0, 0, 3);
        Due.is("telling changes no value", t.least(2, 0, 0) + " " + t.least(0, 0, 0), "995 1000");
        Due.is("one node", Trees.one(77).least(0, 0, 0), 77);
    }

    private static void leastThrows() {
        TagTrees t = new TagTrees(2, 3);
        int[][] nodes = {{-1, 0, 0}, {3, 0, 0}, {Due.LOW, 0, 0}, {Due.HIGH, 0, 0}, {0, 2, 0}, {0, 0, 3}, {0, -1, 0},
            {0, 0, -1}, {1, 1, 0}, {1, 0, 2}, {1, 0, -1}, {2, 1, 0}, {2, 0, 1}, {2, -1, 0}, {0, Due.HIGH, 0}, {0, 0,
                Due.LOW}};
        for (int[] n : nodes) {
            Due.fails("least of " + n[0] + ", " + n[1] + ", " + n[2], Due.INDEX, () -> t.least(n[0], n[1], n[2]));
        }
        Due.is("the last nodes", t.least(0, 1, 2) + t.least(1, 0, 1) + t.least(2, 0, 0), 0);
    }

    private static void leafOfOrder() {
        TagTrees t = new TagTrees(3, 2);
        Due.is("rows", Seen.order(t, 0), "0 1 2 3 4 5");
        Due.is("columns", Seen.order(t, 1), "0 3 1 4 2 5");
        Due.is("quarters", Seen.order(t, 2), "0 1 3 4 2 5");
        for (int order = 0; order < 3; order++) {
            boolean[] met = new boolean[1024];
            int different = 0;
            // An object answers 512 calls.
            for (int k = 0; k < 1024; k++) {
                int number = new TagTrees(32, 32).leaf(order, k);
                different += met[number] ? 0 : 1;
                met[number] = true;
            }
            Due.is("each leaf once in order " + order, different, 1024);
        }
        t.encodeAll(0, 1);
        Due.is("telling changes no order", t.leaf(1, 1), 3);
    }

    private static void leafOrder() {
        TagTrees t = new TagTrees(3, 2);
        for (int order : new int[] {-1, 3, 4, Due.LOW, Due.HIGH}) {
            Due.fails("order " + order, Due.ARGUMENT, () -> t.leaf(order, 0));
            Due.fails("order " + order + ", no leaf", Due.ARGUMENT, () -> t.leaf(order, -1));
        }
        Due.is("0 and 2 are orders", t.leaf(0, 5) + " " + t.leaf(2, 2), "5 3");
    }

    private static void leafThrows() {
        for (int order = 0; order < 3; order++) {
            int o = order;
            TagTrees t = new TagTrees(3, 2);
            for (int k : new int[] {-1, 6, 7, Due.LOW, Due.HIGH}) {
                Due.fails("leaf " + k + " of order " + o, Due.INDEX, () -> t.leaf(o, k));
            }
            Due.is("the last", t.leaf(o, 5), 5);
            TagTrees large = new TagTrees(32, 32);
            Due.fails("leaf 1024 of order " + o, Due.INDEX, () -> large.leaf(o, 1024));
            Due.is("leaf 1023", large.leaf(o, 1023), 1023);
        }
    }

    private static void toldShape() {
        Due.is("1 x 1", Seen.sizes(new TagTrees(1, 1)), "1 1 1 1 0 0 0 0");
        Due.is("2 x 1", Seen.sizes(new TagTrees(2, 1)), "2 1 2 3 0 0 0 0");
        Due.is("1 x 3", Seen.sizes(new TagTrees(1, 3)), "1 3 3 6 0 0 0 0");
        Due.is("17 x 16", Seen.sizes(new TagTrees(17, 16)), "17 16 6 373 0 0 0 0");
        Due.is("32 x 32", Seen.sizes(new TagTrees(32, 32)), "32 32 6 1365 0 0 0 0");
        TagTrees t = Trees.underWay();
        t.reset();
        Due.is("they stay", Seen.sizes(t), "2 2 2 5 0 0 0 0");
    }

    private static void toldBits() {
        TagTrees t = Trees.four();
        Due.is("none", t.told(4), 0);
        t.feed(1);
        t.cost(0, 0, 1001);
        Due.is("none by feed and cost", t.told(4), 0);
        t.encode(0, 0, 3);
        Due.is("by encode", t.told(4), 4);
        t.encodeAll(0, 3);
        Due.is("by encodeAll", t.told(4), 9);
        t.pass(9);
        t.decodeAll(0, 3);
        Due.is("passed on, taken", t.told(4), 9);
        Due.is("full", Trees.full().told(4), 40000);
    }

    private static void toldWaiting() {
        TagTrees t = Trees.four();
        t.encode(0, 0, 3);
        Due.is("none by encode", t.told(5), 0);
        t.pass(3);
        Due.is("by pass", t.told(5), 3);
        t.feed(1);
        Due.is("by feed", t.told(5), 4);
        t.decode(0, 0, 2);
        Due.is("three are taken", t.told(5), 1);
        Due.is("full", Trees.fullTwice().told(5), 40000);
    }

    private static void toldKnownToCoder() {
        TagTrees t = Trees.four();
        int[] due = {0, 0, 2, 3, 4, 5};
        for (int threshold = 0; threshold < due.length; threshold++) {
            t.encodeAll(0, threshold);
            Due.is("up to " + threshold, t.told(6), due[threshold]);
        }
        t.encodeAll(0, 1001);
        Due.is("no node twice", t.told(6) + " " + t.told(7), "5 0");
        TagTrees all = new TagTrees(32, 32);
        all.encodeAll(0, 1);
        Due.is("all", all.told(6), 1365);
    }

    private static void toldKnownToDecoder() {
        TagTrees t = Trees.four();
        t.encodeAll(0, 1001);
        t.pass(99);
        int[] due = {2, 3, 4, 5};
        for (int k = 0; k < 4; k++) {
            t.decode(k % 2, k / 2, 1001);
            Due.is("leaf " + k, t.told(7), due[k]);
        }
        t.decodeAll(0, 1001);
        Due.is("no node twice", t.told(7), 5);
        TagTrees fed = Trees.four();
        fed.feed(1);
        fed.feed(0);
        fed.decode(0, 0, 1);
        Due.is("the root alone", fed.told(7) + " " + fed.told(6), "1 0");
    }

    private static void toldAnother() {
        TagTrees t = Trees.underWay();
        for (int what : new int[] {-1, 8, 9, -2, 16, 256, Due.LOW, Due.HIGH}) {
            Due.is("what " + what, t.told(what), -1);
        }
        Due.is("the greatest what", t.told(7), 0);
    }

    private static void resetBits() {
        TagTrees t = Trees.underWay();
        t.reset();
        Due.is("told, waiting", t.told(4) + " " + t.told(5), "0 0");
        Due.fails("bit 0", Due.INDEX, () -> t.bitAt(0));
        Due.is("none to pass on", t.pass(9), 0);
        Due.is("none to take", t.decode(0, 0, 1), -2);
        Due.is("told anew", t.encode(0, 0, 4) + " " + Seen.bits(t), "5 01001");
        Due.is("passed on anew, from the first", t.pass(9) + " " + t.decode(0, 0, 4) + " " + t.known(0, 0), "5 1 3");
        TagTrees full = Trees.fullTwice();
        full.decode(0, 0, 1);
        full.reset();
        Due.is("room for 40000 told", full.encodeAll(0, 76) + full.encode(0, 1, 311), 40000);
        Due.is("room for 40000 that wait", full.pass(40000), 40000);
        Due.is("they are the new ones", full.decodeAll(0, 76) + " " + full.known(0, 0) + " " + full.known(0, 1),
            "1024 0 -77");
    }

    private static void resetKnown() {
        TagTrees t = Trees.four();
        t.encodeAll(0, 1001);
        t.pass(99);
        t.decodeAll(0, 1001);
        t.reset();
        Due.is("as at first, but for the values", Seen.state(t),
            "2 2 2 5 0 0 0 0 bits  | 3 0 0 -1 | 1 0 0 -1 | 2 0 0 -1 | 4 0 0 -1 | 1 0 0");
        Due.is("the coder tells all again", t.encodeAll(0, 1001), 12);
        TagTrees fresh = Trees.four();
        fresh.reset();
        Due.is("of a new one", Seen.state(fresh), Seen.state(Trees.four()));
        Due.is("of a large one", Seen.whole(() -> {
            TagTrees large = Trees.fullTwice();
            large.decodeAll(0, 3);
            large.reset();
            return large;
        }).equals(Seen.whole(Trees::dear)), true);
    }

    private static void resetValues() {
        TagTrees t = new TagTrees(3, 2);
        t.values(0, 0, 6, 1000, -200);
        t.encodeAll(0, 500);
        t.reset();
        Due.is("leaves", Seen.leaves(t), "1000 800 600 400 200 0");
        Due.is("nodes", t.least(1, 0, 0) + " " + t.least(1, 1, 0) + " " + t.least(2, 0, 0), "200 0 0");
        Due.is("another value is taken again", t.value(2, 1, 9), 0);
        t.reset();
        Due.is("it stays too", t.least(0, 2, 1) + " " + t.least(2, 0, 0), "9 9");
    }
}
