/** A test for each sentence of the promises 1 to 7, values and the coder, at the edges that it names. */
public final class CoderEdgesTest {
    public static void main(String[] args) {
        promises1To3();
        promises4To6();
        promise7();
        Due.end();
    }

    private static void promises1To3() {
        Due.sentence("Promise 1", "A tree with so many leaves across and down, 1 .. 32 each",
            CoderEdgesTest::soManyLeaves);
        Due.sentence("Promise 1", "other numbers count as the nearest of these", CoderEdgesTest::nearestSides);
        Due.sentence("Promise 1", "all values and bounds are 0, and none is KNOWN", CoderEdgesTest::newObject);
        Due.sentence("Promise 2", "Another value of a leaf: the one before", CoderEdgesTest::anotherValue);
        Due.sentence("Promise 3", "Values of leaves from one on, row by row", CoderEdgesTest::valuesRowByRow);
        Due.sentence("Promise 3", "n at most", CoderEdgesTest::valuesAtMost);
        Due.sentence("Promise 3", "v, then each time the step more", CoderEdgesTest::valuesByStep);
        Due.sentence("Promise 3", "(as whole numbers of any size)", CoderEdgesTest::valuesOfAnySize);
        Due.sentence("Promise 3", "each brought to 0 .. 1000", CoderEdgesTest::valuesBroughtIn);
        Due.sentence("Promise 3", "how many", CoderEdgesTest::valuesHowMany);
        Due.sentence("Promise 3", "IllegalArgument: n is below 0", CoderEdgesTest::valuesBelowNone);
    }

    private static void promises4To6() {
        Due.sentence("Promise 4", "The coder tells a leaf: how many bits", CoderEdgesTest::encodeHowMany);
        Due.sentence("Promise 4", "IllegalArgument: the threshold is not 0 .. 1001", CoderEdgesTest::encodeThreshold);
        Due.sentence("Promise 4", "throws .. UnsupportedOperationException", CoderEdgesTest::encodeTooMany);
        Due.sentence("Promise 5", "How many bits that would be", CoderEdgesTest::costHowMany);
        Due.sentence("Promise 5", "nothing is told", CoderEdgesTest::costTellsNothing);
        Due.sentence("Promise 5", "throws IndexOutOfBoundsException, IllegalArgumentException",
            CoderEdgesTest::costThrows);
        Due.sentence("Promise 6", "The coder tells all leaves, in an order", CoderEdgesTest::encodeAllInOrder);
        Due.sentence("Promise 6", "how many bits", CoderEdgesTest::encodeAllHowMany);
        Due.sentence("Promise 6", "IllegalArgument: the order is not 0 .. 2", CoderEdgesTest::encodeAllOrder);
        Due.sentence("Promise 6", "or the threshold not 0 .. 1001", CoderEdgesTest::encodeAllThreshold);
        Due.sentence("Promise 6", "throws .. UnsupportedOperationException", CoderEdgesTest::encodeAllTooMany);
    }

    private static void promise7() {
        Due.sentence("Promise 7", "Bit i that the coder told", CoderEdgesTest::bitThatWasTold);
        Due.sentence("Promise 7", "throws IndexOutOfBoundsException", CoderEdgesTest::bitThatWasNot);
    }

    private static void soManyLeaves() {
        int[][] sides = {{1, 1}, {1, 32}, {32, 1}, {32, 32}, {31, 2}, {2, 31}};
        for (int[] s : sides) {
            TagTrees t = new TagTrees(s[0], s[1]);
            Due.is("sides", t.told(0) + " " + t.told(1), s[0] + " " + s[1]);
            Due.is("leaves", t.values(0, 0, 2000, 5, 0), s[0] * s[1]);
            Due.is("last leaf", t.least(0, s[0] - 1, s[1] - 1), 5);
            Due.is("last leaf of the order", t.leaf(0, s[0] * s[1] - 1), s[0] * s[1] - 1);
            Due.fails("one more across", Due.INDEX, () -> t.known(s[0], 0));
            Due.fails("one more down", Due.INDEX, () -> t.known(0, s[1]));
        }
    }

    private static void nearestSides() {
        Due.is("0 x 0", Seen.sizes(new TagTrees(0, 0)), "1 1 1 1 0 0 0 0");
        Due.is("33 x 33", Seen.sizes(new TagTrees(33, 33)), "32 32 6 1365 0 0 0 0");
        Due.is("-5 x 3", Seen.sizes(new TagTrees(-5, 3)), "1 3 3 6 0 0 0 0");
        Due.is("3 x -5", Seen.sizes(new TagTrees(3, -5)), "3 1 3 6 0 0 0 0");
        Due.is("low x high", Seen.sizes(new TagTrees(Due.LOW, Due.HIGH)), "1 32 6 63 0 0 0 0");
        Due.is("high x low", Seen.sizes(new TagTrees(Due.HIGH, Due.LOW)), "32 1 6 63 0 0 0 0");
    }

    private static void newObject() {
        Due.is("3 x 2", Seen.state(new TagTrees(3, 2)),
            "3 2 3 9 0 0 0 0 bits " + " | 0 0 0 -1".repeat(6) + " | 0 0 0".repeat(3));
        Due.is("1 x 1", Seen.state(new TagTrees(1, 1)), "1 1 1 1 0 0 0 0 bits  | 0 0 0 -1");
        Due.is("32 x 32", Seen.whole(() -> new TagTrees(32, 32)).startsWith(
            "32 32 6 1365 0 0 0 0 bits " + " | 0 0 0 -1".repeat(1024) + " | 0 0 0".repeat(341) + " passed 0 wait 0"),
                true);
    }

    private static void anotherValue() {
        TagTrees t = new TagTrees(3, 2);
        Due.is("of a new one", t.value(2, 1, 1000), 0);
        Due.is("the greatest before", t.value(2, 1, 0), 1000);
        Due.is("the least before", t.value(2, 1, 0), 0);
        Due.is("the first leaf", t.value(0, 0, 1) + " " + t.value(0, 0, 2), "0 1");
        Due.is("others stay", Seen.leaves(t), "2 0 0 0 0 0");
        t.values(0, 0, 6, 7, 1);
        Due.is("one of several", t.value(1, 1, 5), 11);
        Due.is("nodes above follow", t.least(1, 0, 0) + " " + t.least(2, 0, 0) + " " + t.least(1, 1, 0), "5 5 9");
        Due.is("downward and upward", t.value(1, 1, 900) + " " + t.least(2, 0, 0), "5 7");
        Due.fails("1001", Due.ARGUMENT, () -> t.value(1, 1, 1001));
        Due.fails("-1", Due.ARGUMENT, () -> t.value(1, 1, -1));
        Due.is("still the one before", t.value(1, 1, 1), 900);
    }

    private static void valuesRowByRow() {
        TagTrees t = new TagTrees(3, 3);
        t.values(2, 0, 3, 5, 1);
        Due.is("from the end of a row", Seen.leaves(t), "0 0 5 6 7 0 0 0 0");
        t.values(1, 2, 2, 8, 1);
        Due.is("to the last leaf", Seen.leaves(t), "0 0 5 6 7 0 0 8 9");
        Due.is("nodes above follow", t.least(1, 1, 1) + " " + t.least(1, 0, 1) + " " + t.least(1, 1, 0), "9 0 0");
        t.values(0, 0, 9, 3, 1);
        Due.is("all", Seen.leaves(t) + " " + t.least(2, 0, 0), "3 4 5 6 7 8 9 10 11 3");
    }

    private static void valuesAtMost() {
        TagTrees t = new TagTrees(2, 3);
        t.values(0, 0, 0, 9, 9);
        Due.is("none", Seen.leaves(t), "0 0 0 0 0 0");
        t.values(0, 1, 1, 9, 9);
        Due.is("one", Seen.leaves(t), "0 0 9 0 0 0");
        t.values(1, 1, 4, 1, 1);
        Due.is("more than there are", Seen.leaves(t), "0 0 9 1 2 3");
        t.values(1, 2, Due.HIGH, 4, 1);
        Due.is("far more, from the last", Seen.leaves(t), "0 0 9 1 2 4");
        t.values(0, 0, 5, 7, 0);
        Due.is("one less than there are", Seen.leaves(t), "7 7 7 7 7 4");
    }

    private static void valuesByStep() {
        TagTrees t = new TagTrees(4, 1);
        t.values(0, 0, 4, 10, 3);
        Due.is("upward", Seen.leaves(t), "10 13 16 19");
        t.values(0, 0, 4, 10, -3);
        Due.is("downward", Seen.leaves(t), "10 7 4 1");
        t.values(0, 0, 4, 10, 0);
        Due.is("no step", Seen.leaves(t), "10 10 10 10");
        t.values(0, 0, 4, -5, 3);
        Due.is("from below 0, not from the 0 it is brought to", Seen.leaves(t), "0 0 1 4");
        t.values(0, 0, 4, 1005, -3);
        Due.is("from above 1000", Seen.leaves(t), "1000 1000 999 996");
    }

    private static void valuesOfAnySize() {
        TagTrees t = new TagTrees(4, 1);
        t.values(0, 0, 4, Due.HIGH, Due.HIGH);
        Due.is("high and high", Seen.leaves(t), "1000 1000 1000 1000");
        t.values(0, 0, 4, Due.LOW, Due.LOW);
        Due.is("low and low", Seen.leaves(t), "0 0 0 0");
        t.values(0, 0, 4, Due.HIGH, 1);
        Due.is("high and 1", Seen.leaves(t), "1000 1000 1000 1000");
        t.values(0, 0, 4, Due.LOW, -1);
        Due.is("low and -1", Seen.leaves(t), "0 0 0 0");
        t.values(0, 0, 4, Due.LOW, Due.HIGH);
        Due.is("low and high", Seen.leaves(t), "0 0 1000 1000");
        t.values(0, 0, 4, Due.HIGH, Due.LOW);
        Due.is("high and low", Seen.leaves(t), "1000 0 0 0");
        t.values(0, 0, 4, 500, 1 << 30);
        Due.is("four steps are a whole turn of an int", Seen.leaves(t), "500 1000 1000 1000");
        TagTrees far = new TagTrees(32, 32);
        far.values(0, 0, 1024, 5, 1 << 22);
        Due.is("the last", far.least(0, 31, 31), 1000);
        far.values(0, 0, 1024, Due.LOW, 2099203);
        Due.is("the one before the last, and the last", far.least(0, 30, 31) + " " + far.least(0, 31, 31), "0 1000");
        far.values(0, 0, 1024, Due.HIGH, Due.LOW);
        Due.is("far below", far.least(0, 31, 31) + " " + far.least(0, 2, 0) + " " + far.least(0, 0, 0), "0 0 1000");
    }

    private static void valuesBroughtIn() {
        TagTrees t = new TagTrees(6, 1);
        t.values(0, 0, 6, -2, 1);
        Due.is("at 0", Seen.leaves(t), "0 0 0 1 2 3");
        t.values(0, 0, 6, 998, 1);
        Due.is("at 1000", Seen.leaves(t), "998 999 1000 1000 1000 1000");
        t.values(0, 0, 6, -1, 500);
        Due.is("through both", Seen.leaves(t), "0 499 999 1000 1000 1000");
        Due.is("the root", t.least(3, 0, 0), 0);
        t.values(0, 0, 1, 1001, 0);
        Due.is("one above", t.least(0, 0, 0), 1000);
        t.values(0, 0, 1, -1, 0);
        Due.is("one below", t.least(0, 0, 0), 0);
    }

    private static void valuesHowMany() {
        TagTrees t = new TagTrees(3, 2);
        Due.is("none", t.values(0, 0, 0, 1, 1), 0);
        Due.is("none, from the last", t.values(2, 1, 0, 1, 1), 0);
        Due.is("one", t.values(0, 0, 1, 1, 1), 1);
        Due.is("as many as there are", t.values(0, 0, 6, 1, 1), 6);
        Due.is("more", t.values(0, 0, 7, 1, 1), 6);
        Due.is("more, from the second row", t.values(0, 1, Due.HIGH, 1, 1), 3);
        Due.is("more, from the last", t.values(2, 1, 2, 1, 1), 1);
        Due.is("values that stay count too", t.values(0, 0, 6, 1, 1), 6);
    }

    private static void valuesBelowNone() {
        TagTrees t = new TagTrees(3, 2);
        for (int n : new int[] {-1, -2, -6, Due.LOW}) {
            Due.fails("n = " + n, Due.ARGUMENT, () -> t.values(0, 0, n, 1, 1));
        }
        Due.is("no value changed", Seen.leaves(t), "0 0 0 0 0 0");
        Due.is("0 is not below 0", t.values(0, 0, 0, 1, 1), 0);
        Due.is("v and step may be", t.values(0, 0, 1, -1, -1), 1);
    }

    private static void encodeHowMany() {
        TagTrees t = Trees.four();
        int[] due = {0, 1, 2, 1, 1, 1, 0};
        // Leaf 1, 1 is 4: a 0 for the root, its 1 and a 0 for the leaf, two more, its 1.
        for (int threshold = 0; threshold < due.length; threshold++) {
            Due.is("up to " + threshold, t.encode(1, 1, threshold), due[threshold]);
        }
        Due.is("in all", t.told(4) + " " + Seen.bits(t), "6 010001");
        Due.is("at once", Trees.four().encode(1, 1, 1001), 6);
        Due.is("one leaf, the most", Trees.one(1000).encode(0, 0, 1001), 1001);
        Due.is("one leaf, the least", Trees.one(0).encode(0, 0, 1001), 1);
        TagTrees high = new TagTrees(32, 32);
        high.values(0, 0, 1024, 1000, 0);
        Due.is("six levels", high.encode(31, 31, 1001), 1006);
    }

    private static void encodeThreshold() {
        TagTrees t = Trees.one(1000);
        for (int threshold : new int[] {-1, 1002, 1003, -1001, Due.LOW, Due.HIGH}) {
            Due.fails("up to " + threshold, Due.ARGUMENT, () -> t.encode(0, 0, threshold));
        }
        Due.is("no bit", t.told(4), 0);
        Due.is("0 and 1001 are thresholds", t.encode(0, 0, 0) + " " + t.encode(0, 0, 1001), "0 1001");
        Due.fails("also if there is nothing to tell", Due.ARGUMENT, () -> t.encode(0, 0, 1002));
    }

    private static void encodeTooMany() {
        TagTrees t = Trees.dear();
        t.encodeAll(2, 76);
        Due.fails("one too many", Due.TOO_MANY, () -> t.encode(31, 31, 312));
        Due.fails("very many too many", Due.TOO_MANY, () -> t.encode(31, 31, 1001));
        Due.is("none of them is told", t.told(4) + " " + t.bound(true, 0, 31, 31), "39765 76");
        Due.is("as many as may be", t.encode(31, 31, 311) + " " + t.told(4), "235 40000");
        Due.is("none", t.encode(31, 31, 311), 0);
        Due.fails("one", Due.TOO_MANY, () -> t.encode(31, 31, 312));
        Due.is("bound", t.bound(true, 0, 31, 31), 311);
    }

    private static void costHowMany() {
        TagTrees t = Trees.four();
        int[] due = {0, 1, 3, 4, 5, 6, 6};
        for (int threshold = 0; threshold < due.length; threshold++) {
            Due.is("up to " + threshold, t.cost(1, 1, threshold), due[threshold]);
        }
        t.encode(0, 0, 2);
        for (int threshold : new int[] {0, 1, 2, 3, 4, 5, 1001}) {
            int cost = t.cost(1, 1, threshold);
            Due.is("as encode up to " + threshold, t.encode(1, 1, threshold), cost);
            Due.is("told, up to " + threshold, t.cost(1, 1, threshold), 0);
        }
        Due.is("the most of one", Trees.one(1000).cost(0, 0, 1001), 1001);
        Due.is("known", t.cost(1, 1, 1001), 0);
        TagTrees below = new TagTrees(4, 4);
        below.values(0, 0, 16, 5, 0);
        below.encode(0, 0, 4);
        Due.is("bounds come from above", below.cost(3, 3, 6) + " " + below.cost(3, 3, 4), "4 0");
    }

    private static void costTellsNothing() {
        String before = Seen.whole(Trees::underWay);
        String after = Seen.whole(() -> {
            TagTrees t = Trees.underWay();
            t.cost(0, 1, 1001);
            // These two are told without a bit: not even the bound from the root may come down.
            t.cost(0, 1, 1);
            t.cost(1, 0, 0);
            return t;
        });
        Due.is("all as before", after, before);
        TagTrees t = Trees.four();
        t.cost(0, 0, 1001);
        Due.is("no bit", t.told(4) + " " + t.told(6) + " " + t.bound(true, 1, 0, 0), "0 0 0");
        Due.is("values may still come", t.value(0, 0, 9), 3);
    }

    private static void costThrows() {
        Due.is("it names no limit of bits", Trees.full().cost(0, 1, 1001), 690);
        TagTrees t = Trees.four();
        for (int threshold : new int[] {-1, 1002, Due.LOW, Due.HIGH}) {
            Due.fails("threshold " + threshold, Due.ARGUMENT, () -> t.cost(0, 0, threshold));
        }
        int[][] places = {{-1, 0}, {2, 0}, {0, -1}, {0, 2}, {Due.LOW, 0}, {0, Due.HIGH}};
        for (int[] p : places) {
            Due.fails("leaf " + p[0] + ", " + p[1], Due.INDEX, () -> t.cost(p[0], p[1], 1));
        }
        t.encode(0, 0, 1);
        Due.is("nor that bits were told", t.cost(0, 0, 2), 2);
    }

    private static void encodeAllInOrder() {
        for (int order = 0; order < 3; order++) {
            for (int threshold : new int[] {0, 1, 3, 5, 7, 1001}) {
                TagTrees all = Trees.six();
                TagTrees each = Trees.six();
                int bits = all.encodeAll(order, threshold);
                int sum = 0;
                for (int k = 0; k < 6; k++) {
                    int leaf = each.leaf(order, k);
                    sum += each.encode(leaf % 3, leaf / 3, threshold);
                }
                Due.is("leaf by leaf in order " + order + " up to " + threshold, bits, sum);
                Due.is("order " + order + " up to " + threshold, Seen.state(all), Seen.state(each));
            }
        }
        TagTrees root = Trees.four();
        root.encode(0, 0, 2);
        Due.is("without a bit", root.encodeAll(0, 0) + " " + root.encodeAll(1, 1), "0 0");
        Due.is("yet bounds come down", root.bound(true, 0, 1, 0) + " " + root.bound(true, 0, 1, 1), "1 1");
        TagTrees rows = Trees.four();
        rows.encodeAll(0, 3);
        TagTrees columns = Trees.four();
        columns.encodeAll(1, 3);
        Due.is("rows", Seen.bits(rows), "01" + "00" + "1" + "01" + "00");
        Due.is("columns", Seen.bits(columns), "01" + "00" + "01" + "1" + "00");
    }

    private static void encodeAllHowMany() {
        TagTrees t = Trees.four();
        int[] due = {0, 1, 5, 3, 2, 1, 0};
        for (int threshold = 0; threshold < due.length; threshold++) {
            Due.is("up to " + threshold, t.encodeAll(threshold % 3, threshold), due[threshold]);
        }
        Due.is("in all", t.told(4), 12);
        Due.is("what encode told is not counted again", t.encodeAll(0, 1001), 0);
        Due.is("one leaf", Trees.one(1000).encodeAll(2, 1001), 1001);
        Due.is("all 0", new TagTrees(32, 32).encodeAll(1, 1001), 1365);
        Due.is("all 0, up to 0", new TagTrees(32, 32).encodeAll(1, 0), 0);
    }

    private static void encodeAllOrder() {
        TagTrees t = Trees.four();
        for (int order : new int[] {-1, 3, 4, Due.LOW, Due.HIGH}) {
            Due.fails("order " + order, Due.ARGUMENT, () -> t.encodeAll(order, 1));
            Due.fails("order " + order + " up to 0", Due.ARGUMENT, () -> t.encodeAll(order, 0));
        }
        Due.is("no bit", t.told(4), 0);
        Due.is("0 and 2 are orders", t.encodeAll(0, 1) + " " + t.encodeAll(2, 2), "1 5");
    }

    private static void encodeAllThreshold() {
        TagTrees t = Trees.one(1000);
        for (int threshold : new int[] {-1, 1002, Due.LOW, Due.HIGH}) {
            for (int order = 0; order < 3; order++) {
                int o = order;
                Due.fails("up to " + threshold, Due.ARGUMENT, () -> t.encodeAll(o, threshold));
            }
        }
        Due.fails("with no order either", Due.ARGUMENT, () -> t.encodeAll(3, 1002));
        Due.is("no bit", t.told(4), 0);
        Due.is("0 and 1001 are thresholds", t.encodeAll(1, 0) + " " + t.encodeAll(1, 1001), "0 1001");
    }

    private static void encodeAllTooMany() {
        TagTrees t = Trees.worth(40001);
        Due.fails("40001", Due.TOO_MANY, () -> t.encodeAll(2, 1001));
        Due.is("none of them is told", t.told(4) + " " + t.told(6) + " " + t.bound(true, 5, 0, 0), "0 0 0");
        Due.is("one leaf 1 less", t.value(6, 3, 635), 636);
        Due.is("40000", t.encodeAll(2, 1001) + " " + t.told(6), "40000 1365");
        TagTrees dear = Trees.dear();
        Due.fails("half a million", Due.TOO_MANY, () -> dear.encodeAll(0, 1001));
        Due.fails("40277", Due.TOO_MANY, () -> dear.encodeAll(0, 77));
        Due.is("39765", dear.encodeAll(0, 76), 39765);
        Due.fails("512 more", Due.TOO_MANY, () -> dear.encodeAll(0, 77));
        Due.is("none more", dear.encodeAll(0, 76) + " " + dear.told(4), "0 39765");
    }

    private static void bitThatWasTold() {
        TagTrees t = Trees.four();
        t.encode(0, 0, 4);
        String due = "01001";
        for (int i = 0; i < due.length(); i++) {
            Due.is("bit " + i, t.bitAt(i), due.charAt(i) - '0');
        }
        t.feed(1);
        t.pass(2);
        t.decode(0, 0, 1);
        Due.is("the same after feed, pass and decode", Seen.bits(t), due);
        t.encode(1, 1, 2);
        Due.is("what is told later stands behind", Seen.bits(t), due + "0");
        TagTrees far = Trees.one(1000);
        far.encode(0, 0, 1001);
        Due.is("zeros and a 1", far.bitAt(31) + " " + far.bitAt(32) + " " + far.bitAt(999) + " " + far.bitAt(1000),
            "0 0 0 1");
        TagTrees full = Trees.worth(40000);
        full.encodeAll(0, 1001);
        Due.is("the last of 40000", full.bitAt(39999) + " " + full.bitAt(0), "1 1");
    }

    private static void bitThatWasNot() {
        TagTrees t = Trees.four();
        Due.fails("none told", Due.INDEX, () -> t.bitAt(0));
        t.encode(0, 0, 1);
        Due.is("the only one", t.bitAt(0), 0);
        for (int i : new int[] {1, 2, 40000, -1, Due.LOW, Due.HIGH}) {
            Due.fails("bit " + i, Due.INDEX, () -> t.bitAt(i));
        }
        TagTrees full = Trees.full();
        Due.is("bit 39999", full.bitAt(39999), 0);
        Due.fails("bit 40000", Due.INDEX, () -> full.bitAt(40000));
        full.reset();
        Due.fails("bit 0 after reset", Due.INDEX, () -> full.bitAt(0));
    }
}
