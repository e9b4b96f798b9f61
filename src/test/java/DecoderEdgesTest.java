/** A test for each sentence of the promises 8 to 12, bits that wait and the decoder, at the edges that it names. */
public final class DecoderEdgesTest {
    public static void main(String[] args) {
        promises8And9();
        promises10To12();
        Due.end();
    }

    private static void promises8And9() {
        Due.sentence("Promise 8", "A bit comes behind those that the decoder takes", DecoderEdgesTest::fedBehind);
        Due.sentence("Promise 8", "how many wait", DecoderEdgesTest::fedHowMany);
        Due.sentence("Promise 8", "IllegalArgument: it is not 0 or 1", DecoderEdgesTest::fedNoBit);
        Due.sentence("Promise 8", "throws .. UnsupportedOperationException", DecoderEdgesTest::fedTooMany);
        Due.sentence("Promise 9", "So many of the coder's bits", DecoderEdgesTest::passedSoMany);
        Due.sentence("Promise 9", "that were not passed on yet", DecoderEdgesTest::passedOnce);
        Due.sentence("Promise 9", "come behind these", DecoderEdgesTest::passedBehind);
        Due.sentence("Promise 9", "or as many as there are: how many", DecoderEdgesTest::passedAsThereAre);
        Due.sentence("Promise 9", "IllegalArgument: the number is below 0", DecoderEdgesTest::passedBelowNone);
        Due.sentence("Promise 9", "throws .. UnsupportedOperationException", DecoderEdgesTest::passedTooMany);
    }

    private static void promises10To12() {
        Due.sentence("Promise 10", "The decoder is told a leaf", DecoderEdgesTest::decodedLeaf);
        Due.sentence("Promise 10", "1 if its value is below the threshold then, else 0",
            DecoderEdgesTest::decodedBelow);
        Due.sentence("Promise 10", "WAITS .. if there are not bits enough", DecoderEdgesTest::decodeWaits);
        Due.sentence("Promise 10", "and nothing is taken", DecoderEdgesTest::nothingIsTaken);
        Due.sentence("Promise 10", "IllegalArgument: the threshold is not 0 .. 1001",
            DecoderEdgesTest::decodeThreshold);
        Due.sentence("Promise 11", "Likewise all leaves, in an order", DecoderEdgesTest::decodeAllInOrder);
        Due.sentence("Promise 11", "up to the first one for which there are not bits enough",
            DecoderEdgesTest::decodeAllStops);
        Due.sentence("Promise 11", "how many there were", DecoderEdgesTest::decodeAllHowMany);
        Due.sentence("Promise 11", "throws IllegalArgumentException", DecoderEdgesTest::decodeAllThrows);
        Due.sentence("Promise 12", "What the decoder knows of a leaf: its value", DecoderEdgesTest::knownValue);
        Due.sentence("Promise 12", "if it is not known, NONE less its bound (-1, -2, ..)",
            DecoderEdgesTest::knownBound);
        Due.sentence("Promise 12", "throws IndexOutOfBoundsException", DecoderEdgesTest::knownThrows);
    }

    private static void fedBehind() {
        TagTrees t = new TagTrees(2, 1);
        Trees.feedAll(t, "01");
        t.feed(0);
        t.feed(1);
        Due.is("root 1, leaf 2", t.decode(0, 0, 9) + " " + t.bound(false, 1, 0, 0) + " " + t.known(0, 0), "1 1 2");
        TagTrees told = Trees.four();
        told.encode(1, 0, 2);
        told.pass(2);
        told.feed(0);
        told.feed(1);
        Due.is("behind those passed on", told.decode(1, 0, 9) + " " + told.known(1, 0), "1 2");
        TagTrees round = Trees.full();
        round.pass(40000);
        round.decodeAll(0, 76);
        Due.is("left of 40000", round.told(5), 235);
        // These come where the first of the 40000 stood.
        Trees.feedAll(round, "001" + "0001");
        Due.is("taken in their order", round.decode(0, 1, 1001) + " " + round.known(0, 1), "1 313");
        Due.is("and the next", round.decode(1, 1, 1001) + " " + round.known(1, 1) + " " + round.told(5), "1 79 0");
    }

    private static void fedHowMany() {
        TagTrees t = new TagTrees(1, 1);
        Due.is("the first", t.feed(0), 1);
        Due.is("the second", t.feed(1), 2);
        t.decode(0, 0, 1);
        Due.is("one was taken", t.feed(1), 2);
        TagTrees told = Trees.four();
        told.encode(0, 0, 3);
        Due.is("bits told do not wait", told.feed(1), 1);
        told.pass(4);
        Due.is("those passed on do", told.feed(1), 6);
        told.reset();
        Due.is("the first after reset", told.feed(1), 1);
    }

    private static void fedNoBit() {
        TagTrees t = new TagTrees(1, 1);
        for (int bit : new int[] {-1, 2, 3, '0', '1', Due.LOW, Due.HIGH}) {
            Due.fails("bit " + bit, Due.ARGUMENT, () -> t.feed(bit));
        }
        Due.is("none waits", t.told(5), 0);
        Due.is("0 and 1 are bits", t.feed(0) + " " + t.feed(1), "1 2");
    }

    private static void fedTooMany() {
        TagTrees t = Trees.full();
        t.pass(39999);
        Due.is("the 40000th", t.feed(1), 40000);
        Due.fails("one more", Due.TOO_MANY, () -> t.feed(1));
        Due.fails("one more, 0", Due.TOO_MANY, () -> t.feed(0));
        Due.is("40000 wait", t.told(5), 40000);
        t.decode(0, 0, 1);
        Due.is("six were taken", t.feed(0), 39995);
    }

    private static void passedSoMany() {
        TagTrees t = Trees.four();
        t.encode(0, 0, 4);
        Due.is("none", t.pass(0) + " " + t.told(5), "0 0");
        Due.is("one", t.pass(1) + " " + t.told(5), "1 1");
        Due.is("three", t.pass(3) + " " + t.told(5), "3 4");
        Due.is("the told ones stay told", t.told(4), 5);
        Due.is("what they say", t.decode(0, 0, 3) + " " + t.known(0, 0), "0 -4");
        Due.is("the last", t.pass(1) + " " + t.decode(0, 0, 4) + " " + t.known(0, 0), "1 1 3");
    }

    private static void passedOnce() {
        TagTrees t = Trees.four();
        t.encode(0, 0, 4);
        Due.is("all", t.pass(5), 5);
        Due.is("again", t.pass(5) + " " + t.told(5), "0 5");
        t.decode(0, 0, 4);
        Due.is("again, when they are taken", t.pass(5) + " " + t.told(5), "0 0");
        t.encode(1, 1, 3);
        Due.is("what is told since", t.pass(5) + " " + t.told(5), "2 2");
        Due.is("what it says", t.decode(1, 1, 3) + " " + t.known(1, 1), "0 -4");
        t.reset();
        Due.is("none after reset", t.pass(5), 0);
        t.encode(1, 0, 2);
        Due.is("told after reset", t.pass(2) + " " + t.pass(2) + " " + t.pass(2), "2 1 0");
    }

    private static void passedBehind() {
        TagTrees t = Trees.four();
        t.encode(1, 0, 2);
        Trees.feedAll(t, "00");
        t.pass(2);
        t.feed(0);
        t.pass(1);
        // 00 fed, 01 passed on, 0 fed, 1 passed on.
        Due.is("the root by the first four", t.decode(0, 0, 1001) + " " + t.bound(false, 1, 0, 0), "1 3");
        Due.is("the leaf by the last two", t.known(0, 0) + " " + t.told(5), "4 0");
    }

    private static void passedAsThereAre() {
        TagTrees t = Trees.four();
        Due.is("there are none", t.pass(1) + " " + t.pass(Due.HIGH) + " " + t.pass(0), "0 0 0");
        t.encode(0, 0, 4);
        Due.is("one more than there are", t.pass(6) + " " + t.told(5), "5 5");
        t.encode(1, 1, 4);
        Due.is("far more", t.pass(Due.HIGH) + " " + t.told(5), "3 8");
        Due.is("none left", t.pass(Due.HIGH), 0);
        TagTrees full = Trees.full();
        Due.is("40000", full.pass(Due.HIGH) + " " + full.told(5), "40000 40000");
        Due.is("none left, though there is no room", full.pass(Due.HIGH), 0);
    }

    private static void passedBelowNone() {
        TagTrees t = Trees.four();
        for (int many : new int[] {-1, -2, -40000, Due.LOW}) {
            Due.fails("none told, pass " + many, Due.ARGUMENT, () -> t.pass(many));
        }
        t.encode(0, 0, 4);
        t.pass(2);
        for (int many : new int[] {-1, -2, -40000, Due.LOW}) {
            Due.fails("pass " + many, Due.ARGUMENT, () -> t.pass(many));
        }
        Due.is("none came, none went", t.told(5) + " " + t.pass(9), "2 3");
        Due.is("0 is not below 0", t.pass(0), 0);
    }

    private static void passedTooMany() {
        TagTrees t = Trees.fullAndOne();
        Due.fails("40000 to 1", Due.TOO_MANY, () -> t.pass(40000));
        Due.fails("all to 1", Due.TOO_MANY, () -> t.pass(Due.HIGH));
        Due.is("none came", t.told(5), 1);
        Due.is("half", t.pass(20000) + " " + t.told(5), "20000 20001");
        Due.fails("20000 to 20001", Due.TOO_MANY, () -> t.pass(20000));
        Due.is("19999 to 20001", t.pass(19999) + " " + t.told(5), "19999 40000");
        Due.fails("1 to 40000", Due.TOO_MANY, () -> t.pass(1));
        Due.is("0 to 40000", t.pass(0), 0);
        t.decode(0, 0, 1);
        Due.is("the last, when some are taken", t.pass(9) + " " + t.told(5), "1 39995");
    }

    private static void decodedLeaf() {
        TagTrees t = Trees.four();
        Trees.feedAll(t, "01" + "001" + "1");
        Due.is("decode", t.decode(0, 0, 4) + " " + t.told(5), "1 1");
        Due.is("bounds of root and leaf", t.bound(false, 1, 0, 0) + " " + t.bound(false, 0, 0, 0), "1 3");
        Due.is("both are known", t.told(7), 2);
        Due.is("other leaves are not told", t.bound(false, 0, 1, 0) + " " + t.known(1, 0), "0 -1");
        Due.is("nothing is taken for what is known", t.decode(0, 0, 1001) + " " + t.told(5), "1 1");
        Due.is("a known root is not told again", t.decode(1, 0, 4) + " " + t.known(1, 0) + " " + t.told(5), "1 1 0");
        Due.is("a bound from above, without bits", t.decode(1, 1, 1) + " " + t.known(1, 1), "0 -2");
    }

    private static void decodedBelow() {
        TagTrees t = Trees.one(3);
        t.encode(0, 0, 1001);
        t.pass(9);
        int[] due = {0, 0, 0, 0, 1, 1};
        for (int threshold = 0; threshold < due.length; threshold++) {
            Due.is("3 below " + threshold, t.decode(0, 0, threshold), due[threshold]);
        }
        for (int threshold = 0; threshold < due.length; threshold++) {
            Due.is("known 3 below " + threshold, t.decode(0, 0, threshold), due[threshold]);
        }
        Due.is("below 1001", t.decode(0, 0, 1001), 1);
        TagTrees high = Trees.one(1000);
        high.encode(0, 0, 1001);
        high.pass(2000);
        Due.is("1000 below 1000", high.decode(0, 0, 1000), 0);
        Due.is("1000 below 1001", high.decode(0, 0, 1001), 1);
        Due.is("1000 below 1000, when known", high.decode(0, 0, 1000), 0);
        TagTrees zero = new TagTrees(1, 1);
        zero.feed(1);
        Due.is("0 below 0", zero.decode(0, 0, 0) + " " + zero.told(5), "0 1");
        Due.is("0 below 1", zero.decode(0, 0, 1), 1);
        Due.is("0 below 0, when known", zero.decode(0, 0, 0), 0);
        TagTrees none = Trees.one(1000);
        none.encode(0, 0, 1000);
        none.pass(1000);
        none.feed(0);
        Due.is("no value below 1001", none.decode(0, 0, 1001) + " " + none.known(0, 0) + " " + none.told(7),
            "0 -1002 0");
        Due.is("and no bit is wanted any more", none.decode(0, 0, 1001), 0);
    }

    private static void decodeWaits() {
        Due.is("WAITS", TagTrees.WAITS, -2);
        TagTrees t = Trees.four();
        Due.is("no bits", t.decode(0, 0, 1), -2);
        Due.is("no bits, up to 0", t.decode(0, 0, 0), 0);
        String bits = "01001";
        for (int i = 0; i < bits.length(); i++) {
            Due.is("with " + i + " bits", t.decode(0, 0, 4), -2);
            t.feed(bits.charAt(i) - '0');
        }
        Due.is("with bits enough", t.decode(0, 0, 4) + " " + t.told(5), "1 0");
        Due.is("no bits any more, none needed", t.decode(0, 0, 1001), 1);
        Due.is("no bits for another leaf", t.decode(1, 1, 2), -2);
        Due.is("none needed up to the root's bound", t.decode(1, 1, 1), 0);
        TagTrees far = Trees.one(1000);
        far.encode(0, 0, 1001);
        far.pass(1000);
        Due.is("one bit short", far.decode(0, 0, 1001), -2);
        far.pass(1);
        Due.is("not short", far.decode(0, 0, 1001), 1);
    }

    private static void nothingIsTaken() {
        Due.is("of a large tree, all as before", Seen.whole(() -> {
            TagTrees large = Trees.fullAndOne();
            Due.is("a bit for the root alone", large.decode(31, 31, 1001) + " " + large.decodeAll(0, 1), "-2 0");
            return large;
        }).equals(Seen.whole(Trees::fullAndOne)), true);
        TagTrees t = Trees.four();
        Trees.feedAll(t, "0100");
        String state = Seen.state(t);
        Due.is("one short", t.decode(0, 0, 4), -2);
        Due.is("all as before", Seen.state(t), state);
        Due.is("less is wanted, and is there", t.decode(0, 0, 3) + " " + t.told(5), "0 0");
        state = Seen.state(t);
        // The bound that leaf 1, 1 would have from the root is not its own before there are bits enough.
        Due.is("another leaf", t.decode(1, 1, 2), -2);
        Due.is("not even a bound is changed", Seen.state(t), state);
        t.feed(1);
        Due.is("the bit is still for this leaf", t.decode(1, 1, 2) + " " + t.known(1, 1), "1 1");
    }

    private static void decodeThreshold() {
        TagTrees t = Trees.one(1000);
        t.encode(0, 0, 1001);
        t.pass(2000);
        for (int threshold : new int[] {-1, 1002, Due.LOW, Due.HIGH}) {
            Due.fails("up to " + threshold, Due.ARGUMENT, () -> t.decode(0, 0, threshold));
        }
        Due.is("nothing was taken", t.told(5) + " " + t.known(0, 0), "1001 -1");
        Due.is("0 and 1001 are thresholds", t.decode(0, 0, 0) + " " + t.decode(0, 0, 1001), "0 1");
        Due.fails("also without bits", Due.ARGUMENT, () -> new TagTrees(2, 2).decode(0, 0, 1002));
    }

    private static void decodeAllInOrder() {
        for (int order = 0; order < 3; order++) {
            for (int threshold : new int[] {0, 1, 3, 5, 7, 1001}) {
                TagTrees all = Trees.six();
                TagTrees each = Trees.six();
                all.encodeAll(order, threshold);
                each.encodeAll(order, threshold);
                all.pass(Due.HIGH);
                each.pass(Due.HIGH);
                Due.is("leaves", all.decodeAll(order, threshold), 6);
                for (int k = 0; k < 6; k++) {
                    int leaf = each.leaf(order, k);
                    each.decode(leaf % 3, leaf / 3, threshold);
                }
                Due.is("order " + order + " up to " + threshold, Seen.state(all), Seen.state(each));
            }
        }
        TagTrees rows = Trees.four();
        Trees.feedAll(rows, "1" + "1" + "01" + "001" + "0001");
        rows.decodeAll(0, 9);
        TagTrees columns = Trees.four();
        Trees.feedAll(columns, "1" + "1" + "01" + "001" + "0001");
        columns.decodeAll(1, 9);
        Due.is("rows", rows.known(0, 0) + " " + rows.known(1, 0) + " " + rows.known(0, 1) + " " + rows.known(1, 1),
            "0 1 2 3");
        Due.is("columns", columns.known(0, 0) + " " + columns.known(1, 0) + " " + columns.known(0, 1), "0 2 1");
    }

    private static void decodeAllStops() {
        TagTrees t = Trees.four();
        Trees.feedAll(t, "01" + "001" + "1" + "0");
        Due.is("two leaves, a bit for the third", t.decodeAll(0, 9), 2);
        Due.is("what was found stays", t.known(0, 0) + " " + t.known(1, 0), "3 1");
        Due.is("the third leaf's bit is not taken", t.told(5) + " " + t.known(0, 1), "1 -1");
        Due.is("the fourth is not told either", t.bound(false, 0, 1, 1), 0);
        t.feed(1);
        Due.is("now the third", t.decodeAll(0, 9) + " " + t.known(0, 1) + " " + t.told(5), "3 2 0");
        TagTrees late = Trees.four();
        Trees.feedAll(late, "1" + "1");
        late.decode(1, 1, 9);
        Due.is("the last is known, the first is not", late.decodeAll(0, 9), 0);
        Due.is("from the last on, by columns", late.decodeAll(1, 9) + " " + late.known(1, 1), "0 0");
        TagTrees root = Trees.four();
        Trees.feedAll(root, "00");
        root.decode(0, 0, 2);
        Due.is("no bits for the first", root.decodeAll(0, 3), 0);
        Due.is("then no bounds for the others", root.bound(false, 0, 1, 0) + " " + root.bound(false, 0, 1, 1), "0 0");
        Due.is("no bits needed", root.decodeAll(0, 0) + " " + root.bound(false, 0, 1, 1), "4 2");
        Due.is("nor up to the root's bound", root.decodeAll(1, 2), 4);
    }

    private static void decodeAllHowMany() {
        TagTrees t = Trees.four();
        Due.is("no bits", t.decodeAll(0, 1), 0);
        Due.is("no bits, up to 0", t.decodeAll(0, 0), 4);
        Trees.feedAll(t, "1");
        Due.is("the root's only", t.decodeAll(0, 1) + " " + t.told(5) + " " + t.told(7), "0 1 0");
        for (int leaves = 1; leaves <= 4; leaves++) {
            t.feed(1);
            Due.is("leaves", t.decodeAll(0, 1), leaves);
        }
        t.feed(1);
        Due.is("all again, and a bit left", t.decodeAll(2, 1001) + " " + t.told(5), "4 1");
        TagTrees far = new TagTrees(32, 32);
        far.encodeAll(2, 1);
        far.pass(1364);
        Due.is("all but the last", far.decodeAll(2, 1), 1023);
        far.pass(1);
        Due.is("all", far.decodeAll(2, 1) + " " + far.told(7), "1024 1365");
        TagTrees one = new TagTrees(1, 1);
        Due.is("one leaf, no bit", one.decodeAll(1, 1), 0);
        one.feed(0);
        Due.is("one leaf, a bit", one.decodeAll(1, 1), 1);
    }

    private static void decodeAllThrows() {
        TagTrees t = Trees.four();
        Trees.feedAll(t, "11111");
        for (int order : new int[] {-1, 3, Due.LOW, Due.HIGH}) {
            Due.fails("order " + order, Due.ARGUMENT, () -> t.decodeAll(order, 1));
            Due.fails("order " + order + " up to 0", Due.ARGUMENT, () -> t.decodeAll(order, 0));
        }
        for (int threshold : new int[] {-1, 1002, Due.LOW, Due.HIGH}) {
            Due.fails("up to " + threshold, Due.ARGUMENT, () -> t.decodeAll(2, threshold));
            Due.fails("with no order either", Due.ARGUMENT, () -> t.decodeAll(3, threshold));
        }
        Due.is("nothing was taken", t.told(5) + " " + t.told(7), "5 0");
        Due.is("2 is an order, 0 and 1001 are thresholds", t.decodeAll(2, 0) + " " + t.decodeAll(2, 1001), "4 4");
    }

    private static void knownValue() {
        TagTrees zero = new TagTrees(1, 1);
        zero.feed(1);
        zero.decode(0, 0, 1);
        Due.is("0", zero.known(0, 0), 0);
        TagTrees high = Trees.one(1000);
        high.encode(0, 0, 1001);
        Due.is("known to the coder only", high.known(0, 0), -1);
        high.pass(1001);
        Due.is("passed on, not taken", high.known(0, 0), -1);
        high.decode(0, 0, 1001);
        Due.is("1000", high.known(0, 0), 1000);
        high.decode(0, 0, 0);
        Due.is("still 1000", high.known(0, 0), 1000);
    }

    private static void knownBound() {
        Due.is("NONE", TagTrees.NONE, -1);
        TagTrees t = Trees.one(1000);
        t.encode(0, 0, 1000);
        t.pass(1000);
        Due.is("nothing told", t.known(0, 0), -1);
        int[] thresholds = {0, 1, 2, 999, 1000};
        for (int threshold : thresholds) {
            t.decode(0, 0, threshold);
            Due.is("bound " + threshold, t.known(0, 0), -1 - threshold);
        }
        TagTrees f = Trees.four();
        Trees.feedAll(f, "001");
        f.decode(0, 0, 2);
        Due.is("a bound that came from the root", f.known(0, 0) + " " + f.known(1, 0), "-3 -1");
    }

    private static void knownThrows() {
        TagTrees t = new TagTrees(3, 2);
        int[][] places = {{-1, 0}, {3, 0}, {0, -1}, {0, 2}, {-1, 1}, {3, 1}, {Due.LOW, 0}, {Due.HIGH, 0}, {0, Due.LOW},
            {0, Due.HIGH}};
        for (int[] p : places) {
            Due.fails("leaf " + p[0] + ", " + p[1], Due.INDEX, () -> t.known(p[0], p[1]));
        }
        Due.is("the last leaf", t.known(2, 1), -1);
    }
}
