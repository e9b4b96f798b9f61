import java.util.function.Supplier;

/** What can be seen of a tree, as a text. */
final class Seen {
    // An object answers 512 calls; what makes it takes some of them.
    private static final int LOOKS = 400;

    private final Supplier<TagTrees> maker;
    private TagTrees tree;
    private int looks = 0;

    private Seen(Supplier<TagTrees> maker) {
        this.maker = maker;
        tree = maker.get();
    }

    /** The tree to look at: another one, made alike, when this one has answered enough. */
    private TagTrees tree() {
        if (looks == LOOKS) {
            tree = maker.get();
            looks = 0;
        }
        looks++;
        return tree;
    }

    static String sizes(TagTrees t) {
        return new Seen(() -> t).sizes();
    }

    static String bits(TagTrees t) {
        return new Seen(() -> t).bits();
    }

    /** The values of the leaves, row by row. */
    static String leaves(TagTrees t) {
        StringBuilder all = new StringBuilder();
        for (int k = 0; k < t.told(0) * t.told(1); k++) {
            all.append(t.least(0, k % t.told(0), k / t.told(0))).append(' ');
        }
        return all.toString().trim();
    }

    /** The numbers of the leaves in an order. */
    static String order(TagTrees t, int order) {
        StringBuilder all = new StringBuilder();
        for (int k = 0; k < t.told(0) * t.told(1); k++) {
            all.append(t.leaf(order, k)).append(' ');
        }
        return all.toString().trim();
    }

    /** All that a small tree shows by itself: of each node its value, both bounds and, of a leaf, what is known. */
    static String state(TagTrees t) {
        return new Seen(() -> t).state();
    }

    /** All of a tree of any size, with what its waiting bits say, and those that were not passed on. */
    static String whole(Supplier<TagTrees> maker) {
        String state = new Seen(maker).state();
        String atEnd = new Seen(() -> decodedToTheEnd(maker.get())).state();
        TagTrees t = maker.get();
        return state + " passed " + Due.answerOf(() -> t.pass(40000)) + " wait " + t.told(5) + " at the end " + atEnd;
    }

    private static TagTrees decodedToTheEnd(TagTrees t) {
        Due.answerOf(() -> t.pass(40000));
        t.decodeAll(0, 1001);
        return t;
    }

    private String sizes() {
        StringBuilder all = new StringBuilder();
        for (int what = 0; what < 8; what++) {
            all.append(tree().told(what)).append(' ');
        }
        return all.toString().trim();
    }

    private String bits() {
        StringBuilder bits = new StringBuilder();
        int many = tree().told(4);
        for (int i = 0; i < many; i++) {
            bits.append(tree().bitAt(i));
        }
        return bits.toString();
    }

    private String state() {
        StringBuilder all = new StringBuilder(sizes()).append(" bits ").append(bits());
        int across = tree().told(0);
        int down = tree().told(1);
        int levels = tree().told(2);
        for (int level = 0; level < levels; level++) {
            for (int node = 0; node < across * down; node++) {
                appendNode(all, level, node % across, node / across);
            }
            across = across / 2 + across % 2;
            down = down / 2 + down % 2;
        }
        return all.toString();
    }

    private void appendNode(StringBuilder all, int level, int x, int y) {
        all.append(" | ").append(tree().least(level, x, y)).append(' ').append(tree().bound(true, level, x, y));
        all.append(' ').append(tree().bound(false, level, x, y));
        if (level == 0) {
            all.append(' ').append(tree().known(x, y));
        }
    }
}
