/** Trees in states that several tests begin with; each is made with far fewer than 512 calls. */
final class Trees {
    private Trees() {
    }

    /** Two by two leaves 3, 1, 2, 4 below a root whose value is 1. */
    static TagTrees four() {
        TagTrees t = new TagTrees(2, 2);
        t.value(0, 0, 3);
        t.value(1, 0, 1);
        t.value(0, 1, 2);
        t.value(1, 1, 4);
        return t;
    }

    /** Three by two leaves, 6 down to 1. */
    static TagTrees six() {
        TagTrees t = new TagTrees(3, 2);
        t.values(0, 0, 6, 6, -1);
        return t;
    }

    /** Two by two leaves, 3, 1, 2, 4, in the middle of the work: bits told, fed, passed on in part, taken in part. */
    static TagTrees underWay() {
        TagTrees t = four();
        t.encode(0, 0, 3);
        t.encode(1, 1, 2);
        t.feed(0);
        t.pass(3);
        t.decode(1, 0, 1);
        t.feed(1);
        return t;
    }

    /** One leaf, which is the root, with a value. */
    static TagTrees one(int value) {
        TagTrees t = new TagTrees(1, 1);
        t.value(0, 0, value);
        return t;
    }

    /** 32 by 32 leaves, even rows 0 and odd rows 1000: 1 more of the threshold costs 512 bits more. */
    static TagTrees dear() {
        TagTrees t = new TagTrees(32, 32);
        for (int y = 0; y < 32; y++) {
            t.values(0, y, 32, y % 2 * 1000, 0);
        }
        return t;
    }

    /** The same with 40000 bits told. */
    static TagTrees full() {
        TagTrees t = dear();
        t.encodeAll(0, 76);
        t.encode(0, 1, 311);
        return t;
    }

    /** The same with a bit 1 waiting. */
    static TagTrees fullAndOne() {
        TagTrees t = full();
        t.feed(1);
        return t;
    }

    /** The same with 40000 bits waiting: that 1, and all but one of those told. */
    static TagTrees fullTwice() {
        TagTrees t = fullAndOne();
        t.pass(39999);
        return t;
    }

    /** 32 by 32 leaves that cost as many bits in all as is said, from 39365 to 40365. */
    static TagTrees worth(int bits) {
        TagTrees t = new TagTrees(32, 32);
        // Every node has a leaf 0 below it, so each of the 1365 costs its 1, and no zeros but the leaves' own.
        t.values(0, 1, 32, 1000, 0);
        t.values(0, 3, 6, 1000, 0);
        t.value(6, 3, bits - 1365 - 38000);
        return t;
    }

    static void feedAll(TagTrees t, String bits) {
        for (int i = 0; i < bits.length(); i++) {
            t.feed(bits.charAt(i) - '0');
        }
    }
}
