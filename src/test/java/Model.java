import java.util.ArrayList;
import java.util.List;

/**
 * The document once more, as slowly and plainly as it is written: nodes that are objects, bits
 * that are told one by one. It is what ModelTest holds the class against.
 */
final class Model {
    private static final class Node {
        final List<Node> children = new ArrayList<>();
        Node parent;
        int number;
        int leafValue;
        final int[] bound = new int[2];
        final boolean[] known = new boolean[2];

        int value() {
            if (children.isEmpty()) {
                return leafValue;
            }
            int least = Integer.MAX_VALUE;
            for (Node child : children) {
                least = Math.min(least, child.value());
            }
            return least;
        }
    }

    private static final class NotEnough extends Exception {
        private static final long serialVersionUID = 1L;
    }

    private static final int CODER = 0;
    private static final int DECODER = 1;

    private final List<Node[][]> levels = new ArrayList<>();
    private final List<Node> all = new ArrayList<>();
    private final int width;
    private final int height;
    private List<Integer> told = new ArrayList<>();
    private List<Integer> waiting = new ArrayList<>();
    private int passed = 0;

    Model(int width, int height) {
        this.width = Math.max(1, Math.min(32, width));
        this.height = Math.max(1, Math.min(32, height));
        int w = this.width;
        int h = this.height;
        addLevel(w, h);
        while (w != 1 || h != 1) {
            w = w / 2 + w % 2;
            h = h / 2 + h % 2;
            addLevel(w, h);
        }
    }

    private void addLevel(int w, int h) {
        Node[][] nodes = new Node[h][w];
        for (int y = 0; y < h; y++) {
            for (int x = 0; x < w; x++) {
                nodes[y][x] = new Node();
                nodes[y][x].number = y * w + x;
                all.add(nodes[y][x]);
            }
        }
        if (!levels.isEmpty()) {
            Node[][] below = levels.get(levels.size() - 1);
            for (int y = 0; y < below.length; y++) {
                for (int x = 0; x < below[y].length; x++) {
                    below[y][x].parent = nodes[y / 2][x / 2];
                    nodes[y / 2][x / 2].children.add(below[y][x]);
                }
            }
        }
        levels.add(nodes);
    }

    private Node node(int level, int x, int y) {
        if (level < 0 || level >= levels.size() || y < 0 || y >= levels.get(level).length
            || x < 0 || x >= levels.get(level)[y].length) {
            throw new IndexOutOfBoundsException();
        }
        return levels.get(level)[y][x];
    }

    private static void argument(boolean good) {
        if (!good) {
            throw new IllegalArgumentException();
        }
    }

    private void nothingTold() {
        if (!told.isEmpty()) {
            throw new IllegalStateException();
        }
    }

    private static void room(List<Integer> bits) {
        if (bits.size() > 40000) {
            throw new UnsupportedOperationException();
        }
    }

    private void tell(Node leaf, int threshold, int side) throws NotEnough {
        List<Node> path = new ArrayList<>();
        for (Node n = leaf; n != null; n = n.parent) {
            path.add(0, n);
        }
        int before = 0;
        for (Node n : path) {
            if (n.bound[side] < before) {
                n.bound[side] = before;
            }
            int value = n.value();
            while (n.bound[side] < threshold && !n.known[side]) {
                int bit;
                if (side == CODER) {
                    bit = value == n.bound[side] ? 1 : 0;
                    told.add(bit);
                } else {
                    if (waiting.isEmpty()) {
                        throw new NotEnough();
                    }
                    bit = waiting.remove(0);
                }
                if (bit == 1) {
                    n.known[side] = true;
                } else {
                    n.bound[side]++;
                }
            }
            before = n.bound[side];
        }
    }

    /** Bounds, known ones and bits as they are, to go back to them. */
    private Object[] save() {
        int[] state = new int[4 * all.size()];
        for (int i = 0; i < all.size(); i++) {
            for (int side = 0; side < 2; side++) {
                state[4 * i + side] = all.get(i).bound[side];
                state[4 * i + 2 + side] = all.get(i).known[side] ? 1 : 0;
            }
        }
        return new Object[] {state, new ArrayList<>(told), new ArrayList<>(waiting)};
    }

    @SuppressWarnings("unchecked")
    private void back(Object[] saved) {
        int[] state = (int[]) saved[0];
        for (int i = 0; i < all.size(); i++) {
            for (int side = 0; side < 2; side++) {
                all.get(i).bound[side] = state[4 * i + side];
                all.get(i).known[side] = state[4 * i + 2 + side] == 1;
            }
        }
        told = (List<Integer>) saved[1];
        waiting = (List<Integer>) saved[2];
    }

    private int encodeLeaves(List<Node> leaves, int threshold, boolean keep) {
        Object[] saved = save();
        int before = told.size();
        for (Node leaf : leaves) {
            try {
                tell(leaf, threshold, CODER);
            } catch (NotEnough e) {
                throw new AssertionError(e);
            }
            // More would only take time: it is too much already.
            if (told.size() > 50000) {
                break;
            }
        }
        int bits = told.size() - before;
        boolean tooMany = told.size() > 40000;
        if (!keep || tooMany) {
            back(saved);
        }
        if (keep && tooMany) {
            throw new UnsupportedOperationException();
        }
        return bits;
    }

    private boolean decodeLeaf(Node leaf, int threshold) {
        Object[] saved = save();
        try {
            tell(leaf, threshold, DECODER);
            return true;
        } catch (NotEnough e) {
            back(saved);
            return false;
        }
    }

    private List<Node> ordered(int order) {
        argument(order >= 0 && order <= 2);
        List<Node> leaves = new ArrayList<>();
        if (order == 0) {
            for (int y = 0; y < height; y++) {
                for (int x = 0; x < width; x++) {
                    leaves.add(node(0, x, y));
                }
            }
        } else if (order == 1) {
            for (int x = 0; x < width; x++) {
                for (int y = 0; y < height; y++) {
                    leaves.add(node(0, x, y));
                }
            }
        } else {
            addLeavesBelow(node(levels.size() - 1, 0, 0), leaves);
        }
        return leaves;
    }

    private static void addLeavesBelow(Node n, List<Node> leaves) {
        if (n.children.isEmpty()) {
            leaves.add(n);
        }
        for (Node child : n.children) {
            addLeavesBelow(child, leaves);
        }
    }

    int value(int x, int y, int v) {
        Node leaf = node(0, x, y);
        argument(v >= 0 && v <= 1000);
        nothingTold();
        int before = leaf.leafValue;
        leaf.leafValue = v;
        return before;
    }

    int values(int x, int y, int n, int v, int step) {
        node(0, x, y);
        argument(n >= 0);
        nothingTold();
        int done = 0;
        for (int k = y * width + x; k < width * height && done < n; k++) {
            long raw = v + (long) done * step;
            node(0, k % width, k / width).leafValue = (int) Math.max(0, Math.min(1000, raw));
            done++;
        }
        return done;
    }

    int encode(int x, int y, int threshold) {
        Node leaf = node(0, x, y);
        argument(threshold >= 0 && threshold <= 1001);
        return encodeLeaves(List.of(leaf), threshold, true);
    }

    int cost(int x, int y, int threshold) {
        Node leaf = node(0, x, y);
        argument(threshold >= 0 && threshold <= 1001);
        return encodeLeaves(List.of(leaf), threshold, false);
    }

    int encodeAll(int order, int threshold) {
        List<Node> leaves = ordered(order);
        argument(threshold >= 0 && threshold <= 1001);
        return encodeLeaves(leaves, threshold, true);
    }

    int bitAt(int i) {
        if (i < 0 || i >= told.size()) {
            throw new IndexOutOfBoundsException();
        }
        return told.get(i);
    }

    int feed(int bit) {
        argument(bit == 0 || bit == 1);
        if (waiting.size() + 1 > 40000) {
            throw new UnsupportedOperationException();
        }
        waiting.add(bit);
        return waiting.size();
    }

    int pass(int many) {
        argument(many >= 0);
        List<Integer> then = new ArrayList<>(waiting);
        int bits = 0;
        while (bits < many && passed + bits < told.size()) {
            then.add(told.get(passed + bits));
            bits++;
        }
        room(then);
        waiting = then;
        passed += bits;
        return bits;
    }

    int decode(int x, int y, int threshold) {
        Node leaf = node(0, x, y);
        argument(threshold >= 0 && threshold <= 1001);
        if (!decodeLeaf(leaf, threshold)) {
            return -2;
        }
        return leaf.known[DECODER] && leaf.bound[DECODER] < threshold ? 1 : 0;
    }

    int decodeAll(int order, int threshold) {
        List<Node> leaves = ordered(order);
        argument(threshold >= 0 && threshold <= 1001);
        int done = 0;
        for (Node leaf : leaves) {
            if (!decodeLeaf(leaf, threshold)) {
                break;
            }
            done++;
        }
        return done;
    }

    int known(int x, int y) {
        Node leaf = node(0, x, y);
        return leaf.known[DECODER] ? leaf.bound[DECODER] : -1 - leaf.bound[DECODER];
    }

    int bound(boolean coder, int level, int x, int y) {
        return node(level, x, y).bound[coder ? CODER : DECODER];
    }

    int least(int level, int x, int y) {
        return node(level, x, y).value();
    }

    int leaf(int order, int k) {
        List<Node> leaves = ordered(order);
        if (k < 0 || k >= leaves.size()) {
            throw new IndexOutOfBoundsException();
        }
        return leaves.get(k).number;
    }

    int told(int what) {
        int[] known = new int[2];
        for (Node n : all) {
            for (int side = 0; side < 2; side++) {
                known[side] += n.known[side] ? 1 : 0;
            }
        }
        int[] answers = {width, height, levels.size(), all.size(), told.size(), waiting.size(),
            known[CODER], known[DECODER]};
        return what >= 0 && what < answers.length ? answers[what] : -1;
    }

    void reset() {
        told.clear();
        waiting.clear();
        passed = 0;
        for (Node n : all) {
            for (int side = 0; side < 2; side++) {
                n.bound[side] = 0;
                n.known[side] = false;
            }
        }
    }
}
