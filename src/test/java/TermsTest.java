/** A test for each sentence of what stands ahead of the promises, but for those on exceptions. */
public final class TermsTest {
    private static final int[] SIDES = {1, 2, 3, 4, 5, 7, 8, 9, 15, 16, 17, 31, 32};

    public static void main(String[] args) {
        whatItIs();
        tree();
        values();
        telling();
        orders();
        Due.end();
    }

    private static void whatItIs() {
        Due.sentence("What it is", "what is told already is not told again", TermsTest::notToldAgain);
        Due.sentence("What it is", "another one that finds out the same from these bits", TermsTest::findsOutTheSame);
        Due.sentence("What it is", "An object is used for at most 512 calls after it has been made",
            TermsTest::answersItsLastCall);
    }

    private static void tree() {
        Due.sentence("Terms", "The tree has a WIDTH and a HEIGHT, each 1 .. 32", TermsTest::everySide);
        Due.sentence("Terms", "other numbers count as the nearest of these", TermsTest::otherSides);
        Due.sentence("Terms", "LEVEL 0 has that many LEAVES across and down", TermsTest::levelZero);
        Due.sentence("Terms", "each further level half as many, each way, upward", TermsTest::furtherLevels);
        Due.sentence("Terms", "up to that with one node, the ROOT", TermsTest::upToTheRoot);
        Due.sentence("Terms", "has its CHILDREN at 2x and 2x + 1, 2y and 2y + 1 of the level below",
            TermsTest::children);
        Due.sentence("Terms", "as far as these are there", TermsTest::childrenThatAreNotThere);
    }

    private static void values() {
        Due.sentence("Terms", "A leaf has a VALUE, 0 .. 1000", TermsTest::everyValue);
        Due.sentence("Terms", "at first 0", TermsTest::valuesAtFirst);
        Due.sentence("Terms", "other nodes the least value of their children", TermsTest::leastOfChildren);
        Due.sentence("Terms", "each has for each node a BOUND, at first 0", TermsTest::boundsAtFirst);
        Due.sentence("Terms", "whether its value is KNOWN, at first not", TermsTest::notKnownAtFirst);
    }

    private static void telling() {
        Due.sentence("Terms", "for each node from the root on to the leaf", TermsTest::fromTheRoot);
        Due.sentence("Terms", "its bound is no less than that of the node before it", TermsTest::raisedBound);
        Due.sentence("Terms", "(the root's: 0)", TermsTest::boundOfTheRoot);
        Due.sentence("Terms", "it becomes that, if it is less", TermsTest::onlyIfLess);
        Due.sentence("Terms", "as long as the bound is below the threshold", TermsTest::belowTheThreshold);
        Due.sentence("Terms", "and the value is not known", TermsTest::notKnownYet);
        Due.sentence("Terms", "if the value is the bound: a bit 1, and it is known", TermsTest::bitOne);
        Due.sentence("Terms", "else a bit 0, and the bound is 1 more", TermsTest::bitZero);
        Due.sentence("Terms", "The decoder takes bits instead of putting them out", TermsTest::takesBits);
        Due.sentence("Terms", "at a 1 the value is the bound", TermsTest::valueIsTheBound);
    }

    private static void orders() {
        Due.sentence("Terms", "0: row by row", TermsTest::rows);
        Due.sentence("Terms", "1: column by column", TermsTest::columns);
        Due.sentence("Terms", "2: by quarters: those of the root's children in the order of their rows, then columns",
            TermsTest::quarters);
        Due.sentence("Terms", "and so in each", TermsTest::quartersOfQuarters);
    }

    private static int halfUpward(int side) {
        return side / 2 + side % 2;
    }

    private static void notToldAgain() {
        TagTrees t = Trees.four();
        Due.is("told", t.encode(0, 0, 4), 5);
        Due.is("told again", t.encode(0, 0, 4), 0);
        Due.is("told again, less", t.encode(0, 0, 2), 0);
        Due.is("the root, told with another leaf", t.encode(1, 1, 4), 3);
        Due.is("told all", t.encodeAll(0, 1001), 4);
        Due.is("told all again", t.encodeAll(1, 1001), 0);
        Due.is("bits in all", Seen.bits(t), "01" + "001" + "000" + "1" + "01" + "1");
    }

    private static void findsOutTheSame() {
        TagTrees t = new TagTrees(5, 3);
        t.values(0, 0, 15, 1000, -71);
        t.encodeAll(2, 500);
        t.pass(Due.HIGH);
        t.decodeAll(2, 500);
        for (int k = 0; k < 15; k++) {
            int x = k % 5;
            int y = k / 5;
            Due.is("bound of leaf " + k, t.bound(false, 0, x, y), t.bound(true, 0, x, y));
            int value = t.least(0, x, y);
            Due.is("leaf " + k, t.known(x, y), value < 500 ? value : -501);
        }
        Due.is("nodes known", t.told(7), t.told(6));
    }

    private static void answersItsLastCall() {
        TagTrees fed = new TagTrees(32, 32);
        for (int call = 1; call <= 512; call++) {
            Due.is("call " + call, fed.feed(call % 2), call);
        }
        TagTrees told = Trees.one(1000);
        for (int call = 2; call <= 512; call++) {
            Due.is("call " + call, told.encode(0, 0, call), call == 2 ? 2 : 1);
        }
    }

    private static void everySide() {
        for (int width = 1; width <= 32; width++) {
            for (int height = 1; height <= 32; height++) {
                TagTrees t = new TagTrees(width, height);
                Due.is("width of " + width + " x " + height, t.told(0), width);
                Due.is("height of " + width + " x " + height, t.told(1), height);
            }
        }
    }

    private static void otherSides() {
        int[][] sides = {{0, 1}, {-1, 1}, {-32, 1}, {Due.LOW, 1}, {33, 32}, {64, 32}, {1 << 16, 32}, {Due.HIGH, 32}};
        for (int[] side : sides) {
            TagTrees across = new TagTrees(side[0], 7);
            Due.is("width " + side[0], across.told(0) + " " + across.told(1), side[1] + " 7");
            TagTrees down = new TagTrees(7, side[0]);
            Due.is("height " + side[0], down.told(0) + " " + down.told(1), "7 " + side[1]);
        }
        TagTrees both = new TagTrees(Due.HIGH, Due.HIGH);
        Due.is("both too large", Seen.sizes(both), "32 32 6 1365 0 0 0 0");
        Due.is("both too small", Seen.state(new TagTrees(Due.LOW, 0)), "1 1 1 1 0 0 0 0 bits  | 0 0 0 -1");
        Due.is("the last leaf of the largest", both.value(31, 31, 5) + " " + both.least(0, 31, 31), "0 5");
    }

    private static void levelZero() {
        for (int width : SIDES) {
            for (int height : SIDES) {
                TagTrees t = new TagTrees(width, height);
                Due.is("leaves of " + width + " x " + height, t.values(0, 0, Due.HIGH, 1, 0), width * height);
                Due.is("the last leaf", t.value(width - 1, height - 1, 2), 1);
                Due.fails("a leaf more across", Due.INDEX, () -> t.least(0, width, height - 1));
                Due.fails("a leaf more down", Due.INDEX, () -> t.least(0, width - 1, height));
            }
        }
    }

    private static void furtherLevels() {
        for (int width = 1; width <= 32; width++) {
            for (int height = 1; height <= 32; height++) {
                TagTrees t = new TagTrees(width, height);
                int across = width;
                int down = height;
                int nodes = width * height;
                for (int level = 1; level < t.told(2); level++) {
                    across = halfUpward(across);
                    down = halfUpward(down);
                    nodes += across * down;
                    hasSoMany(t, level, across, down);
                }
                Due.is("nodes of " + width + " x " + height, t.told(3), nodes);
            }
        }
    }

    private static void hasSoMany(TagTrees t, int level, int across, int down) {
        String where = "level " + level + " of " + t.told(0) + " x " + t.told(1);
        Due.is("last node, " + where, t.least(level, across - 1, down - 1), 0);
        Due.fails("a node more across, " + where, Due.INDEX, () -> t.least(level, across, down - 1));
        Due.fails("a node more down, " + where, Due.INDEX, () -> t.least(level, across - 1, down));
    }

    private static void upToTheRoot() {
        for (int width = 1; width <= 32; width++) {
            for (int height = 1; height <= 32; height++) {
                TagTrees t = new TagTrees(width, height);
                int levels = 1;
                for (int side = Math.max(width, height); side > 1; side = halfUpward(side)) {
                    levels++;
                }
                int root = levels - 1;
                Due.is("levels of " + width + " x " + height, t.told(2), levels);
                Due.is("the root", t.bound(true, root, 0, 0), 0);
                Due.fails("beside the root", Due.INDEX, () -> t.bound(true, root, 1, 0));
                Due.fails("below the root", Due.INDEX, () -> t.bound(true, root, 0, 1));
                Due.fails("above the root", Due.INDEX, () -> t.bound(true, root + 1, 0, 0));
            }
        }
    }

    private static void children() {
        TagTrees t = new TagTrees(8, 8);
        t.values(0, 0, 64, 1000, 0);
        for (int y = 0; y < 8; y++) {
            t.value(y, y, y);
            t.value(7 - y, y, 100 + y);
        }
        Due.is("of leaves 0 1, 0 1", t.least(1, 0, 0), 0);
        Due.is("of leaves 2 3, 2 3", t.least(1, 1, 1), 2);
        Due.is("of leaves 6 7, 0 1", t.least(1, 3, 0), 100);
        Due.is("of leaves 4 5, 2 3", t.least(1, 2, 1), 102);
        Due.is("of leaves 0 1, 6 7", t.least(1, 0, 3), 106);
        Due.is("of leaves 2 3, 0 1", t.least(1, 1, 0), 1000);
        Due.is("of nodes 2 3, 0 1", t.least(2, 1, 0), 100);
        Due.is("of nodes 0 1, 2 3", t.least(2, 0, 1), 104);
        Due.is("of nodes 2 3, 2 3", t.least(2, 1, 1), 4);
        Due.is("of all", t.least(3, 0, 0), 0);
    }

    private static void childrenThatAreNotThere() {
        TagTrees t = new TagTrees(3, 3);
        t.values(0, 0, 9, 1000, 0);
        Due.is("two children down", t.least(1, 1, 0), 1000);
        Due.is("two children across", t.least(1, 0, 1), 1000);
        Due.is("one child", t.least(1, 1, 1), 1000);
        Due.is("the root", t.least(2, 0, 0), 1000);
        t.value(2, 2, 900);
        Due.is("one child, another value", t.least(1, 1, 1), 900);
        // A child that is not there is no leaf of the next row either.
        t.value(0, 1, 7);
        Due.is("not the next row's leaf", t.least(1, 1, 0), 1000);
        TagTrees line = new TagTrees(1, 5);
        line.values(0, 0, 5, 10, 10);
        Due.is("line, level 1", line.least(1, 0, 0) + " " + line.least(1, 0, 1) + " " + line.least(1, 0, 2),
            "10 30 50");
        Due.is("line, level 2", line.least(2, 0, 0) + " " + line.least(2, 0, 1), "10 50");
        Due.is("line, root", line.least(3, 0, 0), 10);
        Due.is("encode of a node with one child", line.encode(0, 4, 51), 10 + 1 + 40 + 1 + 1 + 1);
    }

    private static void everyValue() {
        int before = 0;
        TagTrees t = new TagTrees(1, 1);
        for (int v : new int[] {1, 999, 1000, 0, 500, 0, 1000}) {
            Due.is("value " + v, t.value(0, 0, v), before);
            Due.is("least after value " + v, t.least(0, 0, 0), v);
            before = v;
        }
        for (int v : new int[] {-1, 1001, -1000, 1 << 16, Due.LOW, Due.HIGH}) {
            Due.fails("value " + v, Due.ARGUMENT, () -> t.value(0, 0, v));
            Due.is("least after value " + v, t.least(0, 0, 0), 1000);
        }
    }

    private static void valuesAtFirst() {
        TagTrees t = new TagTrees(6, 5);
        Due.is("leaves", Seen.leaves(t), "0 ".repeat(30).trim());
        Due.is("the value before", t.value(5, 4, 9), 0);
        Due.is("root", new TagTrees(32, 32).least(5, 0, 0), 0);
    }

    private static void leastOfChildren() {
        int[][] fours = {{0, 1, 2, 3}, {1, 0, 2, 3}, {1, 2, 0, 3}, {1, 2, 3, 0}, {1000, 1000, 1000, 1000},
            {1000, 1000, 1000, 999}, {999, 1000, 1000, 1000}, {7, 7, 7, 7}};
        int[] least = {0, 0, 0, 0, 1000, 999, 999, 7};
        TagTrees t = new TagTrees(2, 2);
        for (int i = 0; i < fours.length; i++) {
            for (int k = 0; k < 4; k++) {
                t.value(k % 2, k / 2, fours[i][k]);
            }
            Due.is("least of four, case " + i, t.least(1, 0, 0), least[i]);
        }
    }

    private static void boundsAtFirst() {
        TagTrees t = new TagTrees(3, 5);
        t.values(0, 0, 15, 9, 1);
        int[][] corners = {{0, 2, 4}, {1, 1, 2}, {2, 0, 1}, {3, 0, 0}, {0, 0, 0}};
        for (int[] c : corners) {
            Due.is("coder's", t.bound(true, c[0], c[1], c[2]), 0);
            Due.is("decoder's", t.bound(false, c[0], c[1], c[2]), 0);
        }
        t.encode(2, 4, 3);
        Due.is("coder's, told", t.bound(true, 0, 2, 4), 3);
        Due.is("coder's, another leaf", t.bound(true, 0, 0, 0), 0);
        Due.is("decoder's, nothing passed", t.bound(false, 0, 2, 4), 0);
    }

    private static void notKnownAtFirst() {
        for (int side : SIDES) {
            TagTrees t = new TagTrees(side, 33 - side);
            Due.is("known to the coder", t.told(6), 0);
            Due.is("known to the decoder", t.told(7), 0);
            Due.is("what is known of the first leaf", t.known(0, 0), -1);
            Due.is("what is known of the last leaf", t.known(side - 1, 32 - side), -1);
            Due.is("a 1 is told of each node", t.encodeAll(0, 1), t.told(3));
        }
    }

    private static void fromTheRoot() {
        TagTrees t = new TagTrees(4, 4);
        t.values(0, 0, 16, 9, 0);
        t.value(3, 3, 1);
        t.value(1, 1, 3);
        Due.is("bits for a leaf", t.encode(0, 0, 6), 8);
        // The root, 1: 01. The node of leaf 1, 1, from 1 on: 001. The leaf, from 3 on: 000.
        Due.is("the root's, the node's, the leaf's", Seen.bits(t), "01" + "001" + "000");
        Due.is("bounds", t.bound(true, 2, 0, 0) + " " + t.bound(true, 1, 0, 0) + " " + t.bound(true, 0, 0, 0), "1 3 6");
        Due.is("other nodes are not told", t.bound(true, 1, 1, 1) + " " + t.bound(true, 0, 1, 1), "0 0");
    }

    private static void raisedBound() {
        TagTrees t = new TagTrees(4, 4);
        t.values(0, 0, 16, 5, 0);
        t.encode(0, 0, 4);
        Due.is("not told yet", t.bound(true, 1, 1, 1) + " " + t.bound(true, 0, 3, 3), "0 0");
        Due.is("no bits", t.encode(3, 3, 4), 0);
        Due.is("two levels", t.bound(true, 1, 1, 1) + " " + t.bound(true, 0, 3, 3), "4 4");
        Due.is("no bits by a threshold of 0", t.encode(0, 3, 0), 0);
        Due.is("two levels by a threshold of 0", t.bound(true, 1, 0, 1) + " " + t.bound(true, 0, 0, 3), "4 4");
        Trees.feedAll(t, "0000");
        t.decode(0, 0, 4);
        Due.is("decoder's, no bits", t.decode(3, 0, 0) + " " + t.known(3, 0) + " " + t.bound(false, 1, 1, 0), "0 -5 4");
    }

    private static void boundOfTheRoot() {
        TagTrees t = Trees.one(3);
        Due.is("first bits of the root", t.encode(0, 0, 2), 2);
        Due.is("from 0 on", t.bound(true, 0, 0, 0), 2);
        Due.is("it does not go back", t.encode(0, 0, 1) + " " + t.bound(true, 0, 0, 0), "0 2");
        Due.is("the rest", t.encode(0, 0, 1001) + " " + Seen.bits(t), "2 0001");
    }

    private static void onlyIfLess() {
        TagTrees t = Trees.four();
        t.encode(1, 1, 4);
        Due.is("root and leaf", t.bound(true, 1, 0, 0) + " " + t.bound(true, 0, 1, 1), "1 4");
        t.encode(1, 1, 2);
        Due.is("the leaf's stays above the root's", t.bound(true, 0, 1, 1), 4);
        Due.is("the last bit", t.encode(1, 1, 5), 1);
        t.pass(9);
        t.decode(1, 1, 4);
        t.decode(1, 1, 0);
        Due.is("the decoder's stays", t.bound(false, 1, 0, 0) + " " + t.bound(false, 0, 1, 1), "1 4");
    }

    private static void belowTheThreshold() {
        TagTrees t = Trees.one(3);
        int[] due = {0, 1, 1, 1, 1, 0};
        for (int threshold = 0; threshold < 6; threshold++) {
            Due.is("bits up to " + threshold, t.encode(0, 0, threshold), due[threshold]);
            Due.is("bound up to " + threshold, t.bound(true, 0, 0, 0), Math.min(3, threshold));
            Due.is("known up to " + threshold, t.told(6), threshold > 3 ? 1 : 0);
        }
        TagTrees last = Trees.one(1000);
        Due.is("up to 999", last.encode(0, 0, 999), 999);
        Due.is("up to 1000", last.encode(0, 0, 1000), 1);
        Due.is("not known below 1001", last.told(6), 0);
        Due.is("up to 1001", last.encode(0, 0, 1001) + " " + last.told(6), "1 1");
        Due.is("its last bit", last.bitAt(1000), 1);
    }

    private static void notKnownYet() {
        TagTrees t = Trees.four();
        t.encode(1, 0, 2);
        Due.is("root and leaf", Seen.bits(t), "011");
        Due.is("known, and the threshold far above", t.encode(1, 0, 1001), 0);
        Due.is("the bound of a known one stays", t.bound(true, 0, 1, 0) + " " + t.bound(true, 1, 0, 0), "1 1");
        t.pass(3);
        t.decode(1, 0, 2);
        t.feed(0);
        Due.is("the decoder takes none", t.decode(1, 0, 1001) + " " + t.told(5) + " " + t.known(1, 0), "1 1 1");
    }

    private static void bitOne() {
        TagTrees zero = new TagTrees(1, 1);
        Due.is("value 0", zero.encode(0, 0, 1) + " " + zero.bitAt(0) + " " + zero.told(6), "1 1 1");
        Due.is("its bound", zero.bound(true, 0, 0, 0), 0);
        TagTrees t = Trees.one(2);
        t.encode(0, 0, 1001);
        Due.is("value 2", Seen.bits(t) + " " + t.told(6) + " " + t.bound(true, 0, 0, 0), "001 1 2");
        TagTrees all = new TagTrees(3, 3);
        Due.is("a 1 for each", all.encodeAll(0, 1001) + " " + Seen.bits(all) + " " + all.told(6),
            "14 " + "1".repeat(14) + " 14");
    }

    private static void bitZero() {
        TagTrees t = Trees.one(1000);
        Due.is("up to 2", t.encode(0, 0, 2) + " " + Seen.bits(t) + " " + t.bound(true, 0, 0, 0), "2 00 2");
        Due.is("not known", t.told(6), 0);
        TagTrees f = Trees.four();
        f.encode(0, 0, 3);
        Due.is("the leaf begins at the root's bound", Seen.bits(f) + " " + f.bound(true, 0, 0, 0), "0100 3");
        Due.is("only the root is known", f.told(6), 1);
    }

    private static void takesBits() {
        TagTrees t = Trees.four();
        Trees.feedAll(t, "0011");
        Due.is("decode", t.decode(0, 0, 3), 1);
        Due.is("none told, none waits", t.told(4) + " " + t.told(5), "0 0");
        Due.is("the coder knows of nothing", t.told(6) + " " + t.bound(true, 1, 0, 0), "0 0");
        Due.is("the decoder does", t.told(7) + " " + t.bound(false, 1, 0, 0), "2 2");
        Due.is("values may still come", t.value(0, 0, 5), 3);
    }

    private static void valueIsTheBound() {
        TagTrees t = Trees.four();
        Trees.feedAll(t, "1" + "00001");
        Due.is("bits that the coder would not tell", t.decode(0, 0, 1001), 1);
        Due.is("the decoder's value", t.known(0, 0), 4);
        Due.is("the coder's value", t.least(0, 0, 0), 3);
        Due.is("the root's bound", t.bound(false, 1, 0, 0), 0);
        Trees.feedAll(t, "1");
        Due.is("at once a 1", t.decode(1, 1, 1001) + " " + t.known(1, 1), "1 0");
    }

    private static void rows() {
        Due.is("3 x 2", Seen.order(new TagTrees(3, 2), 0), "0 1 2 3 4 5");
        Due.is("1 x 4", Seen.order(new TagTrees(1, 4), 0), "0 1 2 3");
        Due.is("1 x 1", Seen.order(new TagTrees(1, 1), 0), "0");
        TagTrees t = new TagTrees(32, 32);
        Due.is("32 x 32", t.leaf(0, 31) + " " + t.leaf(0, 32) + " " + t.leaf(0, 1023), "31 32 1023");
    }

    private static void columns() {
        Due.is("3 x 2", Seen.order(new TagTrees(3, 2), 1), "0 3 1 4 2 5");
        Due.is("2 x 3", Seen.order(new TagTrees(2, 3), 1), "0 2 4 1 3 5");
        Due.is("4 x 1", Seen.order(new TagTrees(4, 1), 1), "0 1 2 3");
        Due.is("1 x 1", Seen.order(new TagTrees(1, 1), 1), "0");
        TagTrees t = new TagTrees(32, 32);
        Due.is("32 x 32", t.leaf(1, 31) + " " + t.leaf(1, 32) + " " + t.leaf(1, 1023), "992 1 1023");
    }

    private static void quarters() {
        Due.is("2 x 2", Seen.order(new TagTrees(2, 2), 2), "0 1 2 3");
        Due.is("3 x 3", Seen.order(new TagTrees(3, 3), 2), "0 1 3 4 2 5 6 7 8");
        Due.is("3 x 2", Seen.order(new TagTrees(3, 2), 2), "0 1 3 4 2 5");
        Due.is("2 x 3", Seen.order(new TagTrees(2, 3), 2), "0 1 2 3 4 5");
        Due.is("1 x 4", Seen.order(new TagTrees(1, 4), 2), "0 1 2 3");
        Due.is("1 x 1", Seen.order(new TagTrees(1, 1), 2), "0");
    }

    private static void quartersOfQuarters() {
        Due.is("4 x 4", Seen.order(new TagTrees(4, 4), 2), "0 1 4 5 2 3 6 7 8 9 12 13 10 11 14 15");
        // The root's quarters are of four by four leaves, though the tree is but five wide.
        Due.is("5 x 3", Seen.order(new TagTrees(5, 3), 2), "0 1 5 6 2 3 7 8 10 11 12 13 4 9 14");
        Due.is("5 x 1", Seen.order(new TagTrees(5, 1), 2), "0 1 2 3 4");
        TagTrees t = new TagTrees(32, 32);
        Due.is("32 x 32, the second quarter", t.leaf(2, 255) + " " + t.leaf(2, 256) + " " + t.leaf(2, 257),
            "495 16 17");
        Due.is("32 x 32, the third", t.leaf(2, 511) + " " + t.leaf(2, 512), "511 512");
        Due.is("32 x 32, the last", t.leaf(2, 768) + " " + t.leaf(2, 1022) + " " + t.leaf(2, 1023), "528 1022 1023");
        TagTrees odd = new TagTrees(17, 17);
        Due.is("17 x 17", odd.leaf(2, 255) + " " + odd.leaf(2, 256) + " " + odd.leaf(2, 271) + " " + odd.leaf(2, 272)
            + " " + odd.leaf(2, 287) + " " + odd.leaf(2, 288), "270 16 271 272 287 288");
    }
}
