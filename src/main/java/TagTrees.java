/**
 * Tag trees: values of a rectangle of leaves, and above them the least of four, told bit by bit
 * as far as is wanted of each leaf; and a decoder that finds out the same from these bits.
 */
public final class TagTrees {
    public static final int NONE = -1, WAITS = -2;

    private static final int LONGEST_SIDE = 32;
    private static final int MOST_LEVELS = 6;
    private static final int GREATEST_VALUE = 1000;
    private static final int GREATEST_THRESHOLD = 1001;
    private static final int MOST_BITS = 40000;
    private static final int ORDERS = 3;

    private final Shape shape;
    /** The value of every node, by the shape's numbers of nodes. */
    private final int[] leasts;
    private final Side coder;
    private final Side decoder;
    private final BitRow toldBits;
    private final BitRow waitingBits;
    private int passed;

    public TagTrees(int width, int height) {
        shape = new Shape(nearest(width, 1, LONGEST_SIDE), nearest(height, 1, LONGEST_SIDE));
        leasts = new int[shape.nodes];
        coder = new Side(shape.nodes);
        decoder = new Side(shape.nodes);
        toldBits = new BitRow();
        waitingBits = new BitRow();
        passed = 0;
    }

    public int value(int x, int y, int v)
            throws IndexOutOfBoundsException, IllegalArgumentException, IllegalStateException {
        checkNode(0, x, y);
        if (v < 0 || v > GREATEST_VALUE) {
            throw new IllegalArgumentException("a value is 0 .. 1000");
        }
        checkNothingTold();
        int leaf = shape.nodeAt(0, x, y);
        int before = leasts[leaf];
        leasts[leaf] = v;
        renewLeasts();
        return before;
    }

    public int values(int x, int y, int n, int v, int step)
            throws IndexOutOfBoundsException, IllegalArgumentException, IllegalStateException {
        checkNode(0, x, y);
        if (n < 0) {
            throw new IllegalArgumentException("a number of leaves is 0 or more");
        }
        checkNothingTold();
        int first = shape.nodeAt(0, x, y);
        int many = Math.min(n, shape.leaves - first);
        // A long holds every sum: 1023 steps of an int at most.
        long next = v;
        for (int i = 0; i < many; i++) {
            leasts[first + i] = nearest(next, 0, GREATEST_VALUE);
            next += step;
        }
        renewLeasts();
        return many;
    }

    public int encode(int x, int y, int threshold)
            throws IndexOutOfBoundsException, IllegalArgumentException, UnsupportedOperationException {
        checkNode(0, x, y);
        checkThreshold(threshold);
        int bits = costOfLeaf(x, y, threshold);
        checkRoom(toldBits, bits);
        tellLeaf(x, y, threshold);
        return bits;
    }

    public int cost(int x, int y, int threshold)
            throws IndexOutOfBoundsException, IllegalArgumentException {
        checkNode(0, x, y);
        checkThreshold(threshold);
        return costOfLeaf(x, y, threshold);
    }

    public int encodeAll(int order, int threshold)
            throws IllegalArgumentException, UnsupportedOperationException {
        checkOrder(order);
        checkThreshold(threshold);
        int bits = costBelow(shape.levels - 1, 0, 0, 0, threshold);
        checkRoom(toldBits, bits);
        for (int k = 0; k < shape.leaves; k++) {
            tellLeaf(shape.leafX(order, k), shape.leafY(order, k), threshold);
        }
        return bits;
    }

    public int bitAt(int i) throws IndexOutOfBoundsException {
        if (i < 0 || i >= toldBits.many) {
            throw new IndexOutOfBoundsException("no such bit");
        }
        return toldBits.look(i);
    }

    public int feed(int bit) throws IllegalArgumentException, UnsupportedOperationException {
        if (bit != 0 && bit != 1) {
            throw new IllegalArgumentException("a bit is 0 or 1");
        }
        checkRoom(waitingBits, 1);
        waitingBits.append(bit);
        return waitingBits.many;
    }

    public int pass(int many) throws IllegalArgumentException, UnsupportedOperationException {
        if (many < 0) {
            throw new IllegalArgumentException("a number of bits is 0 or more");
        }
        int bits = Math.min(many, toldBits.many - passed);
        checkRoom(waitingBits, bits);
        for (int i = 0; i < bits; i++) {
            waitingBits.append(toldBits.look(passed + i));
        }
        passed += bits;
        return bits;
    }

    public int decode(int x, int y, int threshold)
            throws IndexOutOfBoundsException, IllegalArgumentException {
        checkNode(0, x, y);
        checkThreshold(threshold);
        if (!learnLeaf(x, y, threshold)) {
            return WAITS;
        }
        int leaf = shape.nodeAt(0, x, y);
        return decoder.found[leaf] && decoder.bounds[leaf] < threshold ? 1 : 0;
    }

    public int decodeAll(int order, int threshold) throws IllegalArgumentException {
        checkOrder(order);
        checkThreshold(threshold);
        for (int k = 0; k < shape.leaves; k++) {
            if (!learnLeaf(shape.leafX(order, k), shape.leafY(order, k), threshold)) {
                return k;
            }
        }
        return shape.leaves;
    }

    public int known(int x, int y) throws IndexOutOfBoundsException {
        checkNode(0, x, y);
        int leaf = shape.nodeAt(0, x, y);
        int bound = decoder.bounds[leaf];
        return decoder.found[leaf] ? bound : NONE - bound;
    }

    public int bound(boolean coder, int level, int x, int y) throws IndexOutOfBoundsException {
        checkNode(level, x, y);
        Side side = coder ? this.coder : decoder;
        return side.bounds[shape.nodeAt(level, x, y)];
    }

    public int least(int level, int x, int y) throws IndexOutOfBoundsException {
        checkNode(level, x, y);
        return leasts[shape.nodeAt(level, x, y)];
    }

    public int leaf(int order, int k) throws IllegalArgumentException, IndexOutOfBoundsException {
        checkOrder(order);
        if (k < 0 || k >= shape.leaves) {
            throw new IndexOutOfBoundsException("no such leaf");
        }
        return shape.nodeAt(0, shape.leafX(order, k), shape.leafY(order, k));
    }

    public int told(int what) {
        switch (what) {
            case 0: return shape.width;
            case 1: return shape.height;
            case 2: return shape.levels;
            case 3: return shape.nodes;
            case 4: return toldBits.many;
            case 5: return waitingBits.many;
            case 6: return coder.manyFound;
            case 7: return decoder.manyFound;
            default: return NONE;
        }
    }

    public void reset() {
        coder.forget();
        decoder.forget();
        toldBits.empty();
        waitingBits.empty();
        passed = 0;
    }

    private static int nearest(long number, int low, int high) {
        return number < low ? low : number > high ? high : (int) number;
    }

    private void checkNode(int level, int x, int y) {
        if (!shape.hasNode(level, x, y)) {
            throw new IndexOutOfBoundsException("no such leaf, node or level");
        }
    }

    private static void checkThreshold(int threshold) {
        if (threshold < 0 || threshold > GREATEST_THRESHOLD) {
            throw new IllegalArgumentException("a threshold is 0 .. 1001");
        }
    }

    private static void checkOrder(int order) {
        if (order < 0 || order >= ORDERS) {
            throw new IllegalArgumentException("an order is 0 .. 2");
        }
    }

    private void checkNothingTold() {
        if (toldBits.many > 0) {
            throw new IllegalStateException("bits were told already");
        }
    }

    private static void checkRoom(BitRow row, int bits) {
        if (bits > MOST_BITS - row.many) {
            throw new UnsupportedOperationException("more than 40000 bits");
        }
    }

    private void renewLeasts() {
        for (int level = 1; level < shape.levels; level++) {
            for (int y = 0; y < shape.down[level]; y++) {
                for (int x = 0; x < shape.across[level]; x++) {
                    leasts[shape.nodeAt(level, x, y)] = leastOfChildren(level, x, y);
                }
            }
        }
    }

    private int leastOfChildren(int level, int x, int y) {
        int least = GREATEST_VALUE;
        for (int i = 0; i < 4; i++) {
            int childX = 2 * x + (i & 1);
            int childY = 2 * y + (i >> 1);
            if (shape.hasNode(level - 1, childX, childY)) {
                least = Math.min(least, leasts[shape.nodeAt(level - 1, childX, childY)]);
            }
        }
        return least;
    }

    /** Whether the coder, with a node's bound brought to from, has bits to tell of it. */
    private boolean hasBits(int node, int from, int threshold) {
        return from < threshold && !coder.found[node];
    }

    /** The coder's bound of a node once it is told, where from is its bound before the first bit. */
    private int boundAfter(int node, int from, int threshold) {
        return hasBits(node, from, threshold) ? Math.min(leasts[node], threshold) : from;
    }

    private int costOfNode(int node, int from, int threshold) {
        if (!hasBits(node, from, threshold)) {
            return 0;
        }
        int zeros = boundAfter(node, from, threshold) - from;
        return leasts[node] < threshold ? zeros + 1 : zeros;
    }

    private int costOfLeaf(int x, int y, int threshold) {
        int bits = 0;
        int above = 0;
        for (int level = shape.levels - 1; level >= 0; level--) {
            int node = shape.nodeAt(level, x >> level, y >> level);
            int from = Math.max(above, coder.bounds[node]);
            bits += costOfNode(node, from, threshold);
            above = boundAfter(node, from, threshold);
        }
        return bits;
    }

    /**
     * The cost of a node and of all below it. It is the same in every order of leaves: a node's
     * bits come when the first leaf below it is told, and all nodes above are told by then.
     */
    private int costBelow(int level, int x, int y, int above, int threshold) {
        if (!shape.hasNode(level, x, y)) {
            return 0;
        }
        int node = shape.nodeAt(level, x, y);
        int from = Math.max(above, coder.bounds[node]);
        int bits = costOfNode(node, from, threshold);
        int after = boundAfter(node, from, threshold);
        for (int i = 0; i < 4; i++) {
            bits += costBelow(level - 1, 2 * x + (i & 1), 2 * y + (i >> 1), after, threshold);
        }
        return bits;
    }

    private void tellLeaf(int x, int y, int threshold) {
        int above = 0;
        for (int level = shape.levels - 1; level >= 0; level--) {
            int node = shape.nodeAt(level, x >> level, y >> level);
            tellNode(node, Math.max(above, coder.bounds[node]), threshold);
            above = coder.bounds[node];
        }
    }

    private void tellNode(int node, int from, int threshold) {
        int after = boundAfter(node, from, threshold);
        for (int bound = from; bound < after; bound++) {
            toldBits.append(0);
        }
        if (hasBits(node, from, threshold) && leasts[node] < threshold) {
            toldBits.append(1);
            coder.find(node);
        }
        coder.bounds[node] = after;
    }

    /** Whether there were bits enough for the decoder to be told a leaf; if not, nothing changes. */
    private boolean learnLeaf(int x, int y, int threshold) {
        int bits = takeBits(x, y, threshold, false);
        if (bits == WAITS) {
            return false;
        }
        takeBits(x, y, threshold, true);
        waitingBits.drop(bits);
        return true;
    }

    /**
     * How many waiting bits tell the decoder a leaf, or WAITS. How many these are shows only from
     * the bits themselves, so it goes through them once to see, and once more to keep what they say.
     */
    private int takeBits(int x, int y, int threshold, boolean keep) {
        int taken = 0;
        int bound = 0;
        for (int level = shape.levels - 1; level >= 0; level--) {
            int node = shape.nodeAt(level, x >> level, y >> level);
            bound = Math.max(bound, decoder.bounds[node]);
            boolean found = decoder.found[node];
            while (bound < threshold && !found) {
                if (taken >= waitingBits.many) {
                    return WAITS;
                }
                if (waitingBits.look(taken) == 1) {
                    found = true;
                } else {
                    bound++;
                }
                taken++;
            }
            if (keep) {
                decoder.bounds[node] = bound;
                if (found) {
                    decoder.find(node);
                }
            }
        }
        return taken;
    }

    /** The levels of a tree, the numbers of its nodes (the leaves' first, row by row), the orders. */
    private static final class Shape {
        final int width;
        final int height;
        final int leaves;
        final int levels;
        final int nodes;
        final int[] across = new int[MOST_LEVELS];
        final int[] down = new int[MOST_LEVELS];
        final int[] firstNode = new int[MOST_LEVELS];
        /** For each order and each k the leaf's place, 32 y + x: so no call has to divide. */
        final int[][] places;

        Shape(int width, int height) {
            this.width = width;
            this.height = height;
            leaves = width * height;
            int level = 0;
            int count = 0;
            boolean rootSeen = false;
            while (level < MOST_LEVELS && !rootSeen) {
                across[level] = halved(width, level);
                down[level] = halved(height, level);
                firstNode[level] = count;
                count += across[level] * down[level];
                rootSeen = across[level] * down[level] == 1;
                level++;
            }
            levels = level;
            nodes = count;
            places = new int[ORDERS][leaves];
            fillRowsAndColumns();
            fillQuarters();
        }

        private static int halved(int side, int times) {
            return (side + (1 << times) - 1) >> times;
        }

        private void fillRowsAndColumns() {
            for (int y = 0; y < height; y++) {
                for (int x = 0; x < width; x++) {
                    places[0][y * width + x] = LONGEST_SIDE * y + x;
                    places[1][x * height + y] = LONGEST_SIDE * y + x;
                }
            }
        }

        /** By quarters, the bits of y and x take turns in a leaf's position, the root's first. */
        private void fillQuarters() {
            int k = 0;
            for (int turn = 0; turn < LONGEST_SIDE * LONGEST_SIDE; turn++) {
                int x = everySecondBit(turn);
                int y = everySecondBit(turn >> 1);
                if (x < width && y < height && k < leaves) {
                    places[2][k] = LONGEST_SIDE * y + x;
                    k++;
                }
            }
        }

        private static int everySecondBit(int number) {
            int picked = 0;
            for (int i = 0; i < MOST_LEVELS; i++) {
                picked |= ((number >> (2 * i)) & 1) << i;
            }
            return picked;
        }

        boolean hasNode(int level, int x, int y) {
            return level >= 0 && level < levels
                && x >= 0 && x < across[level] && y >= 0 && y < down[level];
        }

        int nodeAt(int level, int x, int y) {
            return firstNode[level] + y * across[level] + x;
        }

        int leafX(int order, int k) {
            return places[order][k] & (LONGEST_SIDE - 1);
        }

        int leafY(int order, int k) {
            return places[order][k] / LONGEST_SIDE;
        }
    }

    /** What the coder has told, or the decoder found out, of each node. */
    private static final class Side {
        final int[] bounds;
        /** Whether the node's value is known; it is the node's bound then. */
        final boolean[] found;
        int manyFound;

        Side(int nodes) {
            bounds = new int[nodes];
            found = new boolean[nodes];
            manyFound = 0;
        }

        void find(int node) {
            if (!found[node]) {
                found[node] = true;
                manyFound++;
            }
        }

        void forget() {
            for (int node = 0; node < bounds.length && node < found.length; node++) {
                bounds[node] = 0;
                found[node] = false;
            }
            manyFound = 0;
        }
    }

    /** At most 40000 bits, 32 to an int, in a ring: what is dropped in front leaves room behind. */
    private static final class BitRow {
        private final int[] words = new int[MOST_BITS / 32];
        private int first;
        int many;

        BitRow() {
            first = 0;
            many = 0;
        }

        private int placeOf(int i) {
            int place = first + i;
            return place >= MOST_BITS ? place - MOST_BITS : place;
        }

        int look(int i) {
            if (i < 0 || i >= many) {
                return 0;
            }
            int place = placeOf(i);
            return (words[place >> 5] >>> (place & 31)) & 1;
        }

        void append(int bit) {
            if (many >= MOST_BITS) {
                return;
            }
            int place = placeOf(many);
            int mask = 1 << (place & 31);
            words[place >> 5] = bit == 1 ? words[place >> 5] | mask : words[place >> 5] & ~mask;
            many++;
        }

        void drop(int bits) {
            first = placeOf(bits);
            many -= bits;
        }

        void empty() {
            first = 0;
            many = 0;
        }
    }
}
