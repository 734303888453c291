import java.util.Arrays;

/** A calculator for sofic shifts: sets of words that are presented by labelled directed graphs. */
public final class SoficShift {
    public static final int NONE = -1;
    public static final int BAD_ARGUMENT = -2;
    public static final int FULL = -3;
    public static final int REDUCIBLE = -4;
    public static final int TOO_LARGE = -5;
    public static final int NOTHING_SAVED = -6;
    public static final long NO_NUMBER = Long.MIN_VALUE;

    private static final int SLOTS = 6;
    private static final int VERTICES = 8;
    private static final int LETTERS = 4;
    private static final int ARRAYS = 4;

    private static final int INPUT_LIMIT = 120;
    // A graph of all 256 edges is the longest text: 256 * 4 - 1 characters.
    private static final int OUTPUT_LIMIT = 1024;
    private static final int SYNTAX_ERROR = -100;
    // The characters of an edge and of the semicolon behind it.
    private static final int EDGE_STRIDE = 4;

    private static final int LONGEST_WORD = 30;
    private static final int LONGEST_FORBIDDEN = 6;
    private static final int LONGEST_PERIOD = 7;
    private static final int MOST_DRAWN_EDGES = 24;

    private static final int NO_ARRAY = -11;
    private static final int NOT_FLOAT = -12;
    private static final int BAD_INDEX = -13;
    private static final int NEGATIVE_LENGTH = -14;
    private static final int LONGEST_ARRAY = 30;
    private static final int LARGEST_VALUE = 9999;

    private final Graph[] graphs = new Graph[SLOTS];
    private final Graph[] kept = new Graph[SLOTS];
    private boolean anyKept;
    private final History history = new History();
    private final Text input = new Text(INPUT_LIMIT);
    private final Text written = new Text(OUTPUT_LIMIT);
    private final NumberRow[] rows = new NumberRow[ARRAYS];

    // A new graph is built here first, because the target slot may be a source too.
    private final Graph fresh = new Graph();
    private final Graph trimmed = new Graph();
    private final Graph otherTrimmed = new Graph();
    private final Subsets subsets = new Subsets();
    private final Subsets otherSubsets = new Subsets();
    private final WordCounts counts = new WordCounts();
    private final PairSearch pairs = new PairSearch();
    private final Cover fischer = new Cover();
    private final WideGraph wide = new WideGraph();
    private final Polynomial polynomial = new Polynomial();

    public SoficShift() {
        for (int slot = 0; slot < SLOTS; slot++) {
            graphs[slot] = new Graph();
            kept[slot] = new Graph();
        }
        for (int array = 0; array < ARRAYS; array++) {
            rows[array] = new NumberRow();
        }
    }

    public int addEdge(int slot, int source, int letter, int target) {
        if (!isEdgeOfSlot(slot, source, letter, target)) {
            return BAD_ARGUMENT;
        }
        history.push(slot, graphs[slot]);
        graphs[slot].put(source, letter, target);
        return graphs[slot].countEdges();
    }

    public int removeEdge(int slot, int source, int letter, int target) {
        if (!isEdgeOfSlot(slot, source, letter, target)) {
            return BAD_ARGUMENT;
        }
        if (!graphs[slot].has(source, letter, target)) {
            return NONE;
        }
        history.push(slot, graphs[slot]);
        graphs[slot].drop(source, letter, target);
        return graphs[slot].countEdges();
    }

    public int targets(int slot, int source, int letter) {
        if (!isSlot(slot) || !isVertex(source) || !isLetter(letter)) {
            return BAD_ARGUMENT;
        }
        return graphs[slot].row(source, letter);
    }

    public int edges(int slot) {
        return isSlot(slot) ? graphs[slot].countEdges() : BAD_ARGUMENT;
    }

    public int feed(int letter) {
        if (!isWithin(letter, 1, 127)) {
            return BAD_ARGUMENT;
        }
        return input.add(letter) ? input.length() : FULL;
    }

    public int parse(int slot) {
        if (!isSlot(slot)) {
            return BAD_ARGUMENT;
        }
        int fault = readGraph();
        input.clear();
        if (fault >= 0) {
            return SYNTAX_ERROR - fault;
        }
        storeFresh(slot);
        return fresh.countEdges();
    }

    public int random(int slot, int seed, int n) {
        if (!isSlot(slot) || !isWithin(n, 0, MOST_DRAWN_EDGES)) {
            return BAD_ARGUMENT;
        }
        fresh.clear();
        int z = seed;
        for (int i = 0; i < n; i++) {
            z = nextDraw(z);
            int source = (z >>> 16) % VERTICES;
            z = nextDraw(z);
            int letter = (z >>> 16) % LETTERS;
            z = nextDraw(z);
            fresh.put(source, letter, (z >>> 16) % VERTICES);
        }
        storeFresh(slot);
        return fresh.countEdges();
    }

    public int essential(int slot) {
        return isSlot(slot) ? graphs[slot].core() : BAD_ARGUMENT;
    }

    public int isIrreducible(int slot) {
        if (!isSlot(slot)) {
            return BAD_ARGUMENT;
        }
        trimmed.copyCoreOf(graphs[slot]);
        return trimmed.isStronglyConnected() ? 1 : 0;
    }

    public int period(int slot) {
        if (!isSlot(slot)) {
            return BAD_ARGUMENT;
        }
        trimmed.copyCoreOf(graphs[slot]);
        return trimmed.cycleDivisor();
    }

    public long words(int slot, int n) {
        if (!isSlot(slot) || !isWithin(n, 0, LONGEST_WORD)) {
            return BAD_ARGUMENT;
        }
        countWords(graphs[slot], n);
        return counts.total(n);
    }

    public long growth(int slot, int n, int part) {
        if (!isSlot(slot) || !isWithin(n, 0, LONGEST_WORD - 1) || !isWithin(part, 0, 1)) {
            return BAD_ARGUMENT;
        }
        countWords(graphs[slot], n + 1);
        long longer = counts.total(n + 1);
        long shorter = counts.total(n);
        long divisor = commonDivisor(longer, shorter);
        if (shorter == 0 || divisor == 0) {
            return part == 0 ? 0 : 1;
        }
        return (part == 0 ? longer : shorter) / divisor;
    }

    public int allows(int slot) {
        if (!isSlot(slot)) {
            return BAD_ARGUMENT;
        }
        int fault = wordFault();
        int ends = fault >= 0 ? 0 : endsOfInput(graphs[slot]);
        input.clear();
        if (fault >= 0) {
            return SYNTAX_ERROR - fault;
        }
        return ends != 0 ? 1 : 0;
    }

    public int writeWord(int slot, int n, long i) {
        if (!isSlot(slot) || !isWithin(n, 0, LONGEST_WORD)) {
            return BAD_ARGUMENT;
        }
        countWords(graphs[slot], n);
        if (i < 0 || i >= counts.total(n)) {
            return NONE;
        }
        counts.spell(subsets, n, i, written);
        return n;
    }

    public int forbidden(int slot, int n) {
        if (!isSlot(slot) || !isWithin(n, 1, LONGEST_FORBIDDEN)) {
            return BAD_ARGUMENT;
        }
        loadSubsets(graphs[slot]);
        return subsets.countForbidden(n);
    }

    public int writeForbidden(int slot, int n, int i) {
        if (!isSlot(slot) || !isWithin(n, 1, LONGEST_FORBIDDEN)) {
            return BAD_ARGUMENT;
        }
        loadSubsets(graphs[slot]);
        if (i < 0 || i >= subsets.countForbidden(n)) {
            return NONE;
        }
        subsets.spellForbidden(n, i, written);
        return n;
    }

    public int periodic(int slot, int n) {
        if (!isSlot(slot) || !isWithin(n, 1, LONGEST_PERIOD)) {
            return BAD_ARGUMENT;
        }
        loadSubsets(graphs[slot]);
        // Each periodic word is a power of one primitive word, which is periodic too.
        int total = 0;
        for (int root = 1; root <= n; root++) {
            if (n % root == 0) {
                total += root * subsets.countOrbits(root);
            }
        }
        return total;
    }

    public int orbits(int slot, int n) {
        if (!isSlot(slot) || !isWithin(n, 1, LONGEST_PERIOD)) {
            return BAD_ARGUMENT;
        }
        loadSubsets(graphs[slot]);
        return subsets.countOrbits(n);
    }

    public long characteristic(int slot, int power) {
        if (!isSlot(slot)) {
            return NO_NUMBER;
        }
        trimmed.copyCoreOf(graphs[slot]);
        int size = Integer.bitCount(trimmed.core());
        if (!isWithin(power, 0, size)) {
            return NO_NUMBER;
        }
        polynomial.compute(trimmed);
        // The other vertices have empty rows, so each of them only multiplies the polynomial by x.
        return polynomial.coefficient(power + VERTICES - size);
    }

    public int cover(int slot, int target) {
        if (!isSlot(slot) || !isSlot(target)) {
            return BAD_ARGUMENT;
        }
        int size = buildCover(graphs[slot]);
        if (size > 0) {
            fresh.copyOf(fischer.shape());
            storeFresh(target);
        }
        return size;
    }

    public int writeReset(int slot) {
        if (!isSlot(slot)) {
            return BAD_ARGUMENT;
        }
        int size = buildCover(graphs[slot]);
        if (size < 0) {
            return size;
        }
        fischer.spellReset(written);
        return written.length();
    }

    public int memory(int slot) {
        if (!isSlot(slot)) {
            return BAD_ARGUMENT;
        }
        int size = buildCover(graphs[slot]);
        return size < 0 ? size : fischer.stepsToSynchronize();
    }

    public int isMixing(int slot) {
        if (!isSlot(slot)) {
            return BAD_ARGUMENT;
        }
        int size = buildCover(graphs[slot]);
        if (size < 0) {
            return size;
        }
        return fischer.shape().cycleDivisor() == 1 ? 1 : 0;
    }

    public int writeDifference(int first, int second) {
        if (!isSlot(first) || !isSlot(second)) {
            return BAD_ARGUMENT;
        }
        loadSubsets(graphs[first]);
        otherTrimmed.copyCoreOf(graphs[second]);
        otherSubsets.build(otherTrimmed);
        if (!pairs.findDifference(subsets, otherSubsets)) {
            return NONE;
        }
        pairs.spellDifference(written);
        return written.length();
    }

    public int union(int first, int second, int target) {
        if (!isSlot(first) || !isSlot(second) || !isSlot(target)) {
            return BAD_ARGUMENT;
        }
        trimmed.copyCoreOf(graphs[first]);
        otherTrimmed.copyCoreOf(graphs[second]);
        wide.clear();
        for (int v = 0; v < VERTICES; v++) {
            for (int letter = 0; letter < LETTERS; letter++) {
                wide.link(v, letter, trimmed.row(v, letter));
                wide.link(VERTICES + v, letter, (long) otherTrimmed.row(v, letter) << VERTICES);
            }
        }
        return storeWide(target);
    }

    public int intersect(int first, int second, int target) {
        if (!isSlot(first) || !isSlot(second) || !isSlot(target)) {
            return BAD_ARGUMENT;
        }
        wide.clear();
        for (int u = 0; u < VERTICES; u++) {
            for (int v = 0; v < VERTICES; v++) {
                for (int letter = 0; letter < LETTERS; letter++) {
                    int columns = graphs[second].row(v, letter);
                    wide.link(VERTICES * u + v, letter, product(graphs[first].row(u, letter), columns));
                }
            }
        }
        return storeWide(target);
    }

    public int reverse(int slot, int target) {
        if (!isSlot(slot) || !isSlot(target)) {
            return BAD_ARGUMENT;
        }
        fresh.clear();
        for (int v = 0; v < VERTICES; v++) {
            for (int letter = 0; letter < LETTERS; letter++) {
                for (int x = 0; x < VERTICES; x++) {
                    if (graphs[slot].has(v, letter, x)) {
                        fresh.put(x, letter, v);
                    }
                }
            }
        }
        storeFresh(target);
        return fresh.countEdges();
    }

    public int relabel(int slot, int from, int to, int target) {
        if (!isSlot(slot) || !isLetter(from) || !isLetter(to) || !isSlot(target)) {
            return BAD_ARGUMENT;
        }
        fresh.clear();
        for (int v = 0; v < VERTICES; v++) {
            for (int letter = 0; letter < LETTERS; letter++) {
                fresh.link(v, letter == from ? to : letter, graphs[slot].row(v, letter));
            }
        }
        storeFresh(target);
        return fresh.countEdges();
    }

    public int forbid(int slot, int target) {
        if (!isSlot(slot) || !isSlot(target)) {
            return BAD_ARGUMENT;
        }
        int fault = wordFault();
        int length = input.length();
        boolean usable = fault < 0 && isWithin(length, 1, LONGEST_FORBIDDEN);
        if (usable) {
            trackInput(graphs[slot]);
        }
        input.clear();
        if (fault >= 0) {
            return SYNTAX_ERROR - fault;
        }
        return usable ? storeWide(target) : BAD_ARGUMENT;
    }

    public int writeGraph(int slot) {
        if (!isSlot(slot)) {
            return BAD_ARGUMENT;
        }
        written.clear();
        for (int v = 0; v < VERTICES; v++) {
            for (int letter = 0; letter < LETTERS; letter++) {
                for (int x = 0; x < VERTICES; x++) {
                    if (graphs[slot].has(v, letter, x)) {
                        writeEdge(v, letter, x);
                    }
                }
            }
        }
        return written.length();
    }

    public int output(int i) {
        return isWithin(i, 0, written.length() - 1) ? written.at(i) : NONE;
    }

    public int undo() {
        int slot = history.pop(graphs);
        return slot == NONE ? NOTHING_SAVED : slot;
    }

    public int save() {
        for (int slot = 0; slot < SLOTS; slot++) {
            kept[slot].copyOf(graphs[slot]);
        }
        anyKept = true;
        return countAllEdges();
    }

    public int restore() {
        if (!anyKept) {
            return NOTHING_SAVED;
        }
        for (int slot = 0; slot < SLOTS; slot++) {
            graphs[slot].copyOf(kept[slot]);
        }
        history.clear();
        return countAllEdges();
    }

    public int createArray(int array, int type, int length) {
        if (!isArray(array) || !isWithin(type, NumberRow.BYTE, NumberRow.FLOAT) || length > LONGEST_ARRAY) {
            return BAD_ARGUMENT;
        }
        if (length < 0) {
            return NEGATIVE_LENGTH;
        }
        rows[array].create(type, length);
        return 1;
    }

    public int setElement(int array, int i, int v) {
        if (!isArray(array) || !isWithin(v, -LARGEST_VALUE, LARGEST_VALUE)) {
            return BAD_ARGUMENT;
        }
        NumberRow row = rows[array];
        if (!row.exists()) {
            return NO_ARRAY;
        }
        if (!row.hasIndex(i)) {
            return BAD_INDEX;
        }
        row.set(i, v);
        return 1;
    }

    public int setNaN(int array, int i) {
        if (!isArray(array)) {
            return BAD_ARGUMENT;
        }
        NumberRow row = rows[array];
        if (!row.exists()) {
            return NO_ARRAY;
        }
        if (!row.isFloat()) {
            return NOT_FLOAT;
        }
        if (!row.hasIndex(i)) {
            return BAD_INDEX;
        }
        row.makeNaN(i);
        return 1;
    }

    public int compareElements(int array, int i, int j) {
        if (!isArray(array)) {
            return BAD_ARGUMENT;
        }
        NumberRow row = rows[array];
        if (!row.exists()) {
            return NO_ARRAY;
        }
        if (!row.hasIndex(i) || !row.hasIndex(j)) {
            return BAD_INDEX;
        }
        return row.order(i, j);
    }

    public int checkCounts(int array, int slot) {
        if (!isArray(array) || !isSlot(slot)) {
            return BAD_ARGUMENT;
        }
        NumberRow row = rows[array];
        if (!row.exists()) {
            return NO_ARRAY;
        }
        countWords(graphs[slot], row.length() - 1);
        for (int i = 0; i < row.length(); i++) {
            if (!row.holds(i, counts.total(i))) {
                return i;
            }
        }
        return NONE;
    }

    private static boolean isWithin(int value, int low, int high) {
        return value >= low && value <= high;
    }

    private static boolean isSlot(int slot) {
        return slot >= 0 && slot < SLOTS;
    }

    private static boolean isVertex(int vertex) {
        return vertex >= 0 && vertex < VERTICES;
    }

    private static boolean isLetter(int letter) {
        return letter >= 0 && letter < LETTERS;
    }

    private static boolean isArray(int array) {
        return array >= 0 && array < ARRAYS;
    }

    private static boolean isEdgeOfSlot(int slot, int source, int letter, int target) {
        return isSlot(slot) && isVertex(source) && isLetter(letter) && isVertex(target);
    }

    private static int nextDraw(int z) {
        return z * 1103515245 + 12345;
    }

    private static long commonDivisor(long first, long second) {
        long a = first;
        long b = second;
        // Euclid's algorithm needs at most some 90 steps for numbers of 63 bits.
        for (int step = 0; step < 100 && b != 0; step++) {
            long rest = a % b;
            a = b;
            b = rest;
        }
        return a;
    }

    /** The pairs (x, y) of an x from each set, as bits 8 * x + y. */
    private static long product(int firstSet, int secondSet) {
        long set = 0;
        for (int x = 0; x < VERTICES; x++) {
            if ((firstSet >> x & 1) != 0) {
                set |= (long) secondSet << (VERTICES * x);
            }
        }
        return set;
    }

    private void storeFresh(int slot) {
        if (isSlot(slot)) {
            history.push(slot, graphs[slot]);
            graphs[slot].copyOf(fresh);
        }
    }

    private int storeWide(int target) {
        int size = wide.compressCore(fresh);
        if (size > VERTICES) {
            return FULL;
        }
        storeFresh(target);
        return size;
    }

    private int countAllEdges() {
        int total = 0;
        for (int slot = 0; slot < SLOTS; slot++) {
            total += graphs[slot].countEdges();
        }
        return total;
    }

    private void loadSubsets(Graph graph) {
        trimmed.copyCoreOf(graph);
        subsets.build(trimmed);
    }

    private void countWords(Graph graph, int longest) {
        loadSubsets(graph);
        counts.fill(subsets, longest);
    }

    /** Answers the number of vertices of the cover, or the error code that every method with a cover shares. */
    private int buildCover(Graph graph) {
        trimmed.copyCoreOf(graph);
        if (!trimmed.isStronglyConnected()) {
            return REDUCIBLE;
        }
        subsets.build(trimmed);
        return fischer.build(subsets) ? fischer.size() : TOO_LARGE;
    }

    /** Reads the input as a graph; answers the error position, or -1 if there is no error. */
    private int readGraph() {
        fresh.clear();
        int length = input.length();
        int source = 0;
        int letter = 0;
        for (int i = 0; i < length; i++) {
            int sign = input.at(i);
            if (!fitsInGraph(i, sign)) {
                return i;
            }
            switch (i % EDGE_STRIDE) {
                case 0:
                    source = sign - '0';
                    break;
                case 1:
                    letter = sign - 'a';
                    break;
                case 2:
                    fresh.put(source, letter, sign - '0');
                    break;
                default:
                    break;
            }
        }
        return length % EDGE_STRIDE == EDGE_STRIDE - 1 ? -1 : length;
    }

    private static boolean fitsInGraph(int position, int sign) {
        switch (position % EDGE_STRIDE) {
            case 1:
                return isLetter(sign - 'a');
            case 3:
                return sign == ';';
            default:
                return isVertex(sign - '0');
        }
    }

    /** The error position of the input read as a word, or -1 if it is a word. */
    private int wordFault() {
        for (int i = 0; i < input.length(); i++) {
            if (!isLetter(input.at(i) - 'a')) {
                return i;
            }
        }
        return -1;
    }

    /** The vertices at which the essential part's paths with the input word end. */
    private int endsOfInput(Graph graph) {
        trimmed.copyCoreOf(graph);
        int ends = trimmed.core();
        for (int i = 0; i < input.length(); i++) {
            ends = trimmed.follow(ends, input.at(i) - 'a');
        }
        return ends;
    }

    /** Builds the tracking graph of the input word, with the vertex 8 * v + k for (v, k). */
    private void trackInput(Graph graph) {
        wide.clear();
        int length = input.length();
        for (int k = 0; k < length && k < LONGEST_FORBIDDEN; k++) {
            for (int letter = 0; letter < LETTERS; letter++) {
                int j = overlap(k, letter);
                if (j < length) {
                    for (int v = 0; v < VERTICES; v++) {
                        wide.link(VERTICES * v + k, letter, product(graph.row(v, letter), 1 << j));
                    }
                }
            }
        }
    }

    /** The longest suffix of the first k input letters and one letter more that is a prefix of the input. */
    private int overlap(int k, int letter) {
        for (int j = k + 1; j > 0; j--) {
            if (input.at(j - 1) - 'a' == letter && repeatsPrefix(k, j - 1)) {
                return j;
            }
        }
        return 0;
    }

    private boolean repeatsPrefix(int k, int length) {
        for (int i = 0; i < length; i++) {
            if (input.at(k - length + i) != input.at(i)) {
                return false;
            }
        }
        return true;
    }

    private void writeEdge(int source, int letter, int target) {
        if (written.length() > 0) {
            written.add(';');
        }
        written.add('0' + source);
        written.addLetter(letter);
        written.add('0' + target);
    }

    /** A buffer of characters with a fixed capacity. */
    private static final class Text {
        private final char[] signs;
        private int length;

        Text(int capacity) {
            signs = new char[capacity > 0 ? capacity : 0];
        }

        int length() {
            return length;
        }

        void clear() {
            length = 0;
        }

        boolean add(int sign) {
            if (length < 0 || length >= signs.length) {
                return false;
            }
            signs[length] = (char) sign;
            length++;
            return true;
        }

        void addLetter(int letter) {
            add('a' + letter);
        }

        int at(int i) {
            return i >= 0 && i < length && i < signs.length ? signs[i] : 0;
        }

        /** Words that are found backwards are turned here. */
        void turnAround() {
            int right = Math.min(length, signs.length) - 1;
            for (int left = 0; left < right; left++) {
                char sign = signs[left];
                signs[left] = signs[right];
                signs[right] = sign;
                right--;
            }
        }
    }

    /** The edges of a graph: for each vertex and letter the set of targets, as a bit mask. */
    private static final class Graph {
        private final int[] masks = new int[VERTICES * LETTERS];

        void clear() {
            Arrays.fill(masks, 0);
        }

        void copyOf(Graph other) {
            System.arraycopy(other.masks, 0, masks, 0, VERTICES * LETTERS);
        }

        int row(int source, int letter) {
            boolean known = source >= 0 && source < VERTICES && letter >= 0 && letter < LETTERS;
            return known ? masks[LETTERS * source + letter] : 0;
        }

        void link(int source, int letter, int targetSet) {
            if (isVertex(source) && isLetter(letter)) {
                masks[LETTERS * source + letter] |= targetSet & 255;
            }
        }

        void put(int source, int letter, int target) {
            if (isVertex(target)) {
                link(source, letter, 1 << target);
            }
        }

        void drop(int source, int letter, int target) {
            if (isVertex(source) && isLetter(letter) && isVertex(target)) {
                masks[LETTERS * source + letter] &= ~(1 << target);
            }
        }

        boolean has(int source, int letter, int target) {
            return isVertex(target) && (row(source, letter) >> target & 1) != 0;
        }

        int countEdges() {
            int count = 0;
            for (int i = 0; i < VERTICES * LETTERS; i++) {
                count += Integer.bitCount(masks[i]);
            }
            return count;
        }

        /** The targets of the edges with a letter that start in a set. */
        int follow(int set, int letter) {
            int ends = 0;
            for (int v = 0; v < VERTICES; v++) {
                if ((set >> v & 1) != 0) {
                    ends |= row(v, letter);
                }
            }
            return ends;
        }

        /** The targets of all edges that start at a vertex. */
        private int exits(int vertex) {
            int ends = 0;
            for (int letter = 0; letter < LETTERS; letter++) {
                ends |= vertex >= 0 && vertex < VERTICES ? masks[LETTERS * vertex + letter] : 0;
            }
            return ends;
        }

        /** The targets of all edges that start in a set. */
        private int followAny(int set) {
            int ends = 0;
            for (int v = 0; v < VERTICES; v++) {
                if ((set >> v & 1) != 0) {
                    ends |= exits(v);
                }
            }
            return ends;
        }

        /** The sources of all edges that end in a set. */
        private int verticesInto(int set) {
            int sources = 0;
            for (int v = 0; v < VERTICES; v++) {
                if ((exits(v) & set) != 0) {
                    sources |= 1 << v;
                }
            }
            return sources;
        }

        /** The essential vertices: what stays when vertices without a way in or out are taken away. */
        int core() {
            int alive = 255;
            boolean changed = true;
            for (int round = 0; round <= VERTICES && changed; round++) {
                int left = alive & followAny(alive) & verticesInto(alive);
                changed = left != alive;
                alive = left;
            }
            return alive;
        }

        void copyCoreOf(Graph other) {
            int core = other.core();
            for (int v = 0; v < VERTICES; v++) {
                boolean stays = (core >> v & 1) != 0;
                for (int letter = 0; letter < LETTERS; letter++) {
                    masks[LETTERS * v + letter] = stays ? other.row(v, letter) & core : 0;
                }
            }
        }

        /** Tells, for a graph that is its own essential part, whether it is irreducible. */
        boolean isStronglyConnected() {
            int core = core();
            int reached = core & -core;
            int reaching = reached;
            for (int round = 0; round < VERTICES; round++) {
                reached |= followAny(reached);
                reaching |= verticesInto(reaching);
            }
            return core != 0 && reached == core && reaching == core;
        }

        /** The greatest common divisor of the cycle lengths; cycles without a repeated vertex suffice for it. */
        int cycleDivisor() {
            long divisor = 0;
            for (int v = 0; v < VERTICES; v++) {
                int ends = 1 << v;
                for (int length = 1; length <= VERTICES; length++) {
                    ends = followAny(ends);
                    if ((ends >> v & 1) != 0) {
                        divisor = commonDivisor(length, divisor);
                    }
                }
            }
            return (int) divisor;
        }
    }

    /** The replaced graphs, of which the 10 latest are kept in a ring. */
    private static final class History {
        private static final int CAPACITY = 10;
        private final Graph[] graphs = new Graph[CAPACITY];
        private final int[] slots = new int[CAPACITY];
        private int latest;
        private int size;

        History() {
            for (int i = 0; i < CAPACITY; i++) {
                graphs[i] = new Graph();
            }
        }

        void push(int slot, Graph graph) {
            latest = isWithin(latest, 0, CAPACITY - 2) ? latest + 1 : 0;
            graphs[latest].copyOf(graph);
            slots[latest] = slot;
            size = Math.min(size + 1, CAPACITY);
        }

        /** Puts the latest graph back in its place among its owners and forgets it; answers its slot, or NONE. */
        int pop(Graph[] owners) {
            if (size <= 0 || !isWithin(latest, 0, CAPACITY - 1)) {
                return NONE;
            }
            int slot = slots[latest];
            if (slot < 0 || slot >= owners.length) {
                return NONE;
            }
            owners[slot].copyOf(graphs[latest]);
            latest = latest > 0 ? latest - 1 : CAPACITY - 1;
            size--;
            return slot;
        }

        void clear() {
            size = 0;
        }
    }

    /**
     * The deterministic automaton of a graph: its states are the sets of vertices at which the paths of a word end, in
     * breadth-first order of the words, so that a state's first word is its shortest and lowest one.
     */
    private static final class Subsets {
        static final int DEAD = 255;
        private static final int WIDTH = 256;
        // The tail of a word without letters, which its first letter does not enter.
        private static final int NO_TAIL = -1;

        private final int[] sets = new int[WIDTH];
        private final int[] numbers = new int[WIDTH];
        private final int[] next = new int[WIDTH * LETTERS];
        private final int[] arrivals = new int[WIDTH];
        private final int[] necklace = new int[LONGEST_PERIOD + 1];
        private int size;

        /** Builds the automaton of a graph that is its own essential part. */
        void build(Graph graph) {
            Arrays.fill(numbers, DEAD);
            size = 0;
            note(graph.core(), 0);
            for (int state = 0; state < size && state < DEAD; state++) {
                for (int letter = 0; letter < LETTERS; letter++) {
                    int place = LETTERS * state + letter;
                    next[place] = note(graph.follow(sets[state], letter), place);
                }
            }
        }

        /** Answers the state of a set; a new state remembers from which state and by which letter it was found. */
        private int note(int set, int arrival) {
            if (set <= 0 || set >= WIDTH) {
                return DEAD;
            }
            if (numbers[set] == DEAD && size >= 0 && size < DEAD) {
                numbers[set] = size;
                sets[size] = set;
                arrivals[size] = arrival;
                size++;
            }
            return numbers[set];
        }

        int size() {
            return size;
        }

        int start() {
            return size > 0 ? 0 : DEAD;
        }

        int set(int state) {
            return state >= 0 && state < size && state < DEAD ? sets[state] : 0;
        }

        int after(int state, int letter) {
            boolean known = state >= 0 && state < size && state < DEAD && letter >= 0 && letter < LETTERS;
            return known ? next[LETTERS * state + letter] : DEAD;
        }

        /** Writes the shortest word that leads to a state, and the lowest of these. */
        void spellPath(int state, Text text) {
            text.clear();
            int at = state;
            for (int i = 0; i < WIDTH && at > 0 && at < size && at < DEAD; i++) {
                text.addLetter(arrivals[at] % LETTERS);
                at = arrivals[at] / LETTERS;
            }
            text.turnAround();
        }

        int countForbidden(int length) {
            return isWithin(length, 1, LONGEST_FORBIDDEN) ? countForbiddenFrom(length, start(), NO_TAIL) : 0;
        }

        void spellForbidden(int length, int number, Text text) {
            text.clear();
            int rest = number;
            int whole = start();
            int tail = NO_TAIL;
            for (int left = length; left > 0; left--) {
                for (int letter = 0; letter < LETTERS; letter++) {
                    int count = countForbiddenBy(left, whole, tail, letter);
                    if (rest < count) {
                        text.addLetter(letter);
                        whole = after(whole, letter);
                        tail = tailAfter(tail, letter);
                        break;
                    }
                    rest -= count;
                }
            }
        }

        /**
         * Counts the minimal forbidden words with a given beginning.
         *
         * @param left the number of letters that are still to come
         * @param whole the state after the beginning
         * @param tail the state after the beginning without its first letter
         */
        private int countForbiddenFrom(int left, int whole, int tail) {
            int count = 0;
            for (int letter = 0; letter < LETTERS; letter++) {
                count += countForbiddenBy(left, whole, tail, letter);
            }
            return count;
        }

        private int countForbiddenBy(int left, int whole, int tail, int letter) {
            int nextWhole = after(whole, letter);
            int nextTail = tailAfter(tail, letter);
            if (left <= 1) {
                return nextWhole == DEAD && nextTail != DEAD ? 1 : 0;
            }
            return nextWhole == DEAD ? 0 : countForbiddenFrom(left - 1, nextWhole, nextTail);
        }

        private int tailAfter(int tail, int letter) {
            return tail == NO_TAIL ? start() : after(tail, letter);
        }

        /** Counts the orbits by the lowest word of each, which is the only one that the search visits. */
        int countOrbits(int length) {
            if (!isWithin(length, 1, LONGEST_PERIOD)) {
                return 0;
            }
            necklace[0] = 0;
            return countNecklaces(1, 1, length, start());
        }

        /**
         * Extends a word that begins a lowest word, at a place from 1, keeping its period so far: a letter below the one
         * a period before would make a rotation lower than the word, and one above it makes the whole word the period.
         */
        private int countNecklaces(int place, int period, int length, int state) {
            if (state == DEAD) {
                return 0;
            }
            if (place < 1 || place > length || place > LONGEST_PERIOD) {
                return period == length && repeatsForever(length, state) ? 1 : 0;
            }
            int count = 0;
            int lowest = period >= 1 && period <= place ? necklace[place - period] : 0;
            for (int letter = lowest; letter < LETTERS; letter++) {
                necklace[place] = letter;
                int newPeriod = letter == lowest ? period : place;
                count += countNecklaces(place + 1, newPeriod, length, after(state, letter));
            }
            return count;
        }

        /** Each repetition keeps the set or makes it smaller, so that the first set that stays, stays forever. */
        private boolean repeatsForever(int length, int stateAfterOne) {
            int before = start();
            int state = stateAfterOne;
            for (int round = 0; round <= VERTICES && state != before; round++) {
                before = state;
                for (int i = 1; i <= length && i <= LONGEST_PERIOD; i++) {
                    state = after(state, necklace[i]);
                }
            }
            return state != DEAD;
        }
    }

    /** The numbers of words that can be read from each state of an automaton, for each length. */
    private static final class WordCounts {
        private final long[] table = new long[(LONGEST_WORD + 1) * Subsets.WIDTH];
        private int start = Subsets.DEAD;

        void fill(Subsets subsets, int longest) {
            start = subsets.start();
            for (int state = 0; state < subsets.size() && state < Subsets.DEAD; state++) {
                table[state] = 1;
            }
            for (int length = 1; length <= longest && length <= LONGEST_WORD; length++) {
                for (int state = 0; state < subsets.size() && state < Subsets.DEAD; state++) {
                    long count = 0;
                    for (int letter = 0; letter < LETTERS; letter++) {
                        count += count(subsets.after(state, letter), length - 1);
                    }
                    table[Subsets.WIDTH * length + state] = count;
                }
            }
        }

        long total(int length) {
            return count(start, length);
        }

        private long count(int state, int length) {
            boolean known = state >= 0 && state < Subsets.DEAD && length >= 0 && length <= LONGEST_WORD;
            return known ? table[Subsets.WIDTH * length + state] : 0;
        }

        void spell(Subsets subsets, int length, long number, Text text) {
            text.clear();
            long rest = number;
            int state = start;
            for (int left = length; left > 0; left--) {
                for (int letter = 0; letter < LETTERS; letter++) {
                    int to = subsets.after(state, letter);
                    long count = count(to, left - 1);
                    if (rest < count) {
                        text.addLetter(letter);
                        state = to;
                        break;
                    }
                    rest -= count;
                }
            }
        }
    }

    /** The breadth-first search for a word that is allowed in one of two automata alone. */
    private static final class PairSearch {
        private static final int PAIRS = Subsets.WIDTH * Subsets.WIDTH;
        private static final int BOTH_DEAD = PAIRS - 1;
        private static final int FIRST_ROOM = 512;
        private static final int NO_ARRIVAL = -1;

        // The pairs in the order in which they were found, each with PAIRS * its arrival added. An arrival is 4 * the place
        // of the pair from which it was found + the letter. Few searches go far, so that the room grows as it is needed.
        private long[] found = new long[FIRST_ROOM];
        private int size;
        // A bit for each pair that was found.
        private final int[] seen = new int[PAIRS / 32];
        private int lastArrival = NO_ARRIVAL;

        boolean findDifference(Subsets first, Subsets second) {
            forget();
            int root = Subsets.WIDTH * first.start() + second.start();
            lastArrival = NO_ARRIVAL;
            if (isDifference(root)) {
                return true;
            }
            note(root, 0);
            for (int place = 0; place < size && place < PAIRS; place++) {
                int from = pairAt(place);
                for (int letter = 0; letter < LETTERS; letter++) {
                    int one = first.after(from / Subsets.WIDTH, letter);
                    int two = second.after(from % Subsets.WIDTH, letter);
                    int pair = Subsets.WIDTH * one + two;
                    int arrival = LETTERS * place + letter;
                    if (isDifference(pair)) {
                        lastArrival = arrival;
                        return true;
                    }
                    note(pair, arrival);
                }
            }
            return false;
        }

        private static boolean isDifference(int pair) {
            return (pair / Subsets.WIDTH == Subsets.DEAD) != (pair % Subsets.WIDTH == Subsets.DEAD);
        }

        private int pairAt(int place) {
            boolean known = place >= 0 && place < size && place < found.length;
            return known ? (int) (found[place] & BOTH_DEAD) : BOTH_DEAD;
        }

        private int arrivalAt(int place) {
            boolean known = place > 0 && place < size && place < found.length;
            return known ? (int) (found[place] / PAIRS) : NO_ARRIVAL;
        }

        private void forget() {
            for (int place = 0; place < size; place++) {
                seen[pairAt(place) / 32] = 0;
            }
            size = 0;
        }

        private void note(int pair, int arrival) {
            if (pair < 0 || pair >= BOTH_DEAD || (seen[pair / 32] >> pair % 32 & 1) != 0) {
                return;
            }
            makeRoom();
            if (size >= 0 && size < found.length) {
                seen[pair / 32] |= 1 << pair % 32;
                found[size] = pair + (long) PAIRS * arrival;
                size++;
            }
        }

        private void makeRoom() {
            if (size >= found.length && found.length < PAIRS) {
                found = Arrays.copyOf(found, 2 * found.length);
            }
        }

        void spellDifference(Text text) {
            text.clear();
            int arrival = lastArrival;
            for (int i = 0; i < PAIRS && arrival >= 0; i++) {
                text.addLetter(arrival % LETTERS);
                arrival = arrivalAt(arrival / LETTERS);
            }
            text.turnAround();
        }
    }

    /**
     * The cover of an irreducible graph. The states of the graph's automaton that can be reached from everywhere they
     * lead to have just the followers of the cover's vertices; states with the same followers are one vertex.
     */
    private static final class Cover {
        private static final int NO_CLASS = -1;

        private final boolean[] members = new boolean[Subsets.WIDTH];
        private final boolean[] marks = new boolean[Subsets.WIDTH];
        private final int[] queue = new int[Subsets.WIDTH];
        private int queued;
        private final int[] classes = new int[Subsets.WIDTH];
        private final int[] finer = new int[Subsets.WIDTH];
        private final int[] leaders = new int[VERTICES];
        private int size;
        private final Graph merged = new Graph();
        private final Subsets tracks = new Subsets();
        private int resetState;
        private final int[] order = new int[VERTICES];
        private final int[] numbers = new int[VERTICES];
        private final Graph shape = new Graph();

        /** Answers false if the cover has more than 8 vertices. */
        boolean build(Subsets subsets) {
            findLastComponent(subsets);
            if (!mergeMembers(subsets)) {
                return false;
            }
            linkClasses(subsets);
            tracks.build(merged);
            findReset();
            numberVertices();
            return true;
        }

        int size() {
            return size;
        }

        Graph shape() {
            return shape;
        }

        void spellReset(Text text) {
            tracks.spellPath(resetState, text);
        }

        /** Leaves in the members a set of states that all lead to one another and to no other state. */
        private void findLastComponent(Subsets subsets) {
            int state = subsets.start();
            for (int round = 0; round < Subsets.WIDTH && state != Subsets.DEAD; round++) {
                collectFrom(subsets, state);
                state = memberWithoutWayTo(subsets, state);
            }
        }

        private static void clearAll(boolean[] flags) {
            for (int i = 0; i < flags.length; i++) {
                flags[i] = false;
            }
        }

        private void collectFrom(Subsets subsets, int first) {
            clearAll(members);
            queued = 0;
            collect(first);
            for (int i = 0; i < queued && i < Subsets.DEAD; i++) {
                for (int letter = 0; letter < LETTERS; letter++) {
                    collect(subsets.after(queue[i], letter));
                }
            }
        }

        private void collect(int state) {
            if (isWithin(state, 0, Subsets.DEAD - 1) && !members[state] && isWithin(queued, 0, Subsets.DEAD - 1)) {
                members[state] = true;
                queue[queued] = state;
                queued++;
            }
        }

        /** Answers a member from which the given state cannot be reached, or DEAD if there is none. */
        private int memberWithoutWayTo(Subsets subsets, int state) {
            clearAll(marks);
            if (isWithin(state, 0, Subsets.DEAD - 1)) {
                marks[state] = true;
            }
            boolean changed = true;
            for (int round = 0; round < Subsets.WIDTH && changed; round++) {
                changed = markMembersBeforeMarked(subsets);
            }
            // Late states have small sets, which lead to few others.
            for (int member = Subsets.DEAD - 1; member >= 0; member--) {
                if (members[member] && !marks[member]) {
                    return member;
                }
            }
            return Subsets.DEAD;
        }

        private boolean markMembersBeforeMarked(Subsets subsets) {
            boolean changed = false;
            // Most edges lead to later states, so that one round from the last state does most of the work.
            for (int state = Math.min(subsets.size(), Subsets.DEAD) - 1; state >= 0; state--) {
                for (int letter = 0; letter < LETTERS && members[state] && !marks[state]; letter++) {
                    int to = subsets.after(state, letter);
                    if (to >= 0 && to < Subsets.DEAD && marks[to]) {
                        marks[state] = true;
                        changed = true;
                    }
                }
            }
            return changed;
        }

        /** Splits the members into classes with the same followers; answers false if there are more than 8. */
        private boolean mergeMembers(Subsets subsets) {
            for (int state = 0; state < Subsets.WIDTH; state++) {
                classes[state] = members[state] ? 0 : NO_CLASS;
            }
            size = 1;
            for (int round = 0; round <= VERTICES; round++) {
                int count = splitClasses(subsets);
                if (count > VERTICES) {
                    return false;
                }
                if (count == size) {
                    return true;
                }
                size = count;
            }
            return false;
        }

        /** Splits each class by the classes to which its members lead; answers the number of classes. */
        private int splitClasses(Subsets subsets) {
            int count = 0;
            for (int state = 0; state < Subsets.DEAD; state++) {
                finer[state] = NO_CLASS;
                if (members[state]) {
                    int found = 0;
                    while (found < count && found < VERTICES && !leadAlike(subsets, state, leaders[found])) {
                        found++;
                    }
                    if (found >= VERTICES) {
                        return VERTICES + 1;
                    }
                    if (found == count) {
                        leaders[found] = state;
                        count++;
                    }
                    finer[state] = found;
                }
            }
            System.arraycopy(finer, 0, classes, 0, Subsets.DEAD);
            return count;
        }

        private boolean leadAlike(Subsets subsets, int first, int second) {
            boolean alike = classOf(first) == classOf(second);
            for (int letter = 0; letter < LETTERS && alike; letter++) {
                alike = classOf(subsets.after(first, letter)) == classOf(subsets.after(second, letter));
            }
            return alike;
        }

        private int classOf(int state) {
            return state >= 0 && state < Subsets.DEAD ? classes[state] : NO_CLASS;
        }

        private void linkClasses(Subsets subsets) {
            merged.clear();
            for (int vertex = 0; vertex < size && vertex < VERTICES; vertex++) {
                for (int letter = 0; letter < LETTERS; letter++) {
                    merged.put(vertex, letter, classOf(subsets.after(leaders[vertex], letter)));
                }
            }
        }

        private void findReset() {
            resetState = 0;
            for (int state = tracks.size() - 1; state >= 0; state--) {
                if (Integer.bitCount(tracks.set(state)) == 1) {
                    resetState = state;
                }
            }
        }

        private void numberVertices() {
            shape.clear();
            Arrays.fill(numbers, NO_CLASS);
            int count = 0;
            for (int v = 0; v < VERTICES && count == 0; v++) {
                if ((tracks.set(resetState) >> v & 1) != 0) {
                    count = numberVertex(v, count);
                }
            }
            for (int i = 0; i < count && i < VERTICES; i++) {
                for (int letter = 0; letter < LETTERS; letter++) {
                    int target = targetInMerged(order[i], letter);
                    if (target >= 0 && target < VERTICES) {
                        count = numberVertex(target, count);
                        shape.put(i, letter, numbers[target]);
                    }
                }
            }
        }

        private int numberVertex(int vertex, int count) {
            if (!isVertex(vertex) || !isVertex(count) || numbers[vertex] != NO_CLASS) {
                return count;
            }
            numbers[vertex] = count;
            order[count] = vertex;
            return count + 1;
        }

        private int targetInMerged(int vertex, int letter) {
            for (int target = 0; target < VERTICES; target++) {
                if (merged.has(vertex, letter, target)) {
                    return target;
                }
            }
            return NONE;
        }

        /**
         * Answers the memory. A word is no synchronizing word if two paths with it end at different vertices, and then
         * their vertices differ all the way; such paths with more steps than there are pairs can go on forever.
         */
        int stepsToSynchronize() {
            long apart = 0;
            for (int u = 0; u < size; u++) {
                for (int v = 0; v < u; v++) {
                    apart |= 1L << (VERTICES * u + v);
                }
            }
            int mostPairs = VERTICES * (VERTICES - 1) / 2;
            for (int steps = 0; steps <= mostPairs; steps++) {
                if (apart == 0) {
                    return steps;
                }
                apart = pairsAfter(apart);
            }
            return NONE;
        }

        private long pairsAfter(long apart) {
            long after = 0;
            for (int u = 0; u < VERTICES; u++) {
                for (int v = 0; v < u; v++) {
                    if ((apart >> (VERTICES * u + v) & 1) != 0) {
                        after |= pairsAfterPair(u, v);
                    }
                }
            }
            return after;
        }

        private long pairsAfterPair(int u, int v) {
            long after = 0;
            for (int letter = 0; letter < LETTERS; letter++) {
                int x = targetInMerged(u, letter);
                int y = targetInMerged(v, letter);
                if (x >= 0 && y >= 0 && x != y) {
                    after |= 1L << (VERTICES * Math.max(x, y) + Math.min(x, y));
                }
            }
            return after;
        }
    }

    /** A graph of up to 64 vertices, whose essential part may be small enough for a slot. */
    private static final class WideGraph {
        private static final int WIDTH = 64;
        private final long[] masks = new long[WIDTH * LETTERS];
        private final int[] numbers = new int[WIDTH];

        void clear() {
            Arrays.fill(masks, 0L);
        }

        void link(int source, int letter, long targetSet) {
            if (source >= 0 && source < WIDTH && isLetter(letter)) {
                masks[LETTERS * source + letter] |= targetSet;
            }
        }

        /**
         * Builds the essential part, its vertices numbered from 0 in ascending order, unless it has more than 8; answers
         * the number of its vertices.
         */
        int compressCore(Graph result) {
            long core = trim();
            int size = Long.bitCount(core);
            if (size <= VERTICES) {
                numberVertices(core);
                result.clear();
                for (int v = 0; v < WIDTH; v++) {
                    if ((core >> v & 1) != 0) {
                        copyEdges(v, numbers[v], core, result);
                    }
                }
            }
            return size;
        }

        private long trim() {
            long alive = -1L;
            boolean changed = true;
            for (int round = 0; round <= WIDTH && changed; round++) {
                long entered = 0;
                long leaving = 0;
                for (int v = 0; v < WIDTH; v++) {
                    long ends = (alive >> v & 1) != 0 ? successors(v) & alive : 0;
                    entered |= ends;
                    leaving |= ends != 0 ? 1L << v : 0;
                }
                long left = alive & entered & leaving;
                changed = left != alive;
                alive = left;
            }
            return alive;
        }

        private long successors(int v) {
            long ends = 0;
            for (int letter = 0; letter < LETTERS; letter++) {
                ends |= row(v, letter);
            }
            return ends;
        }

        private long row(int source, int letter) {
            return source >= 0 && source < WIDTH && isLetter(letter) ? masks[LETTERS * source + letter] : 0;
        }

        private void numberVertices(long core) {
            int count = 0;
            for (int v = 0; v < WIDTH; v++) {
                numbers[v] = count;
                if ((core >> v & 1) != 0) {
                    count++;
                }
            }
        }

        private void copyEdges(int v, int number, long core, Graph result) {
            for (int letter = 0; letter < LETTERS; letter++) {
                long ends = row(v, letter) & core;
                for (int x = 0; x < WIDTH; x++) {
                    if ((ends >> x & 1) != 0) {
                        result.put(number, letter, numbers[x]);
                    }
                }
            }
        }
    }

    /** The characteristic polynomial of a graph, by the method of Faddeev and LeVerrier, which stays in integers. */
    private static final class Polynomial {
        private final long[] matrix = new long[VERTICES * VERTICES];
        private final long[] power = new long[VERTICES * VERTICES];
        private final long[] product = new long[VERTICES * VERTICES];
        private final long[] coefficients = new long[VERTICES + 1];

        long coefficient(int i) {
            return i >= 0 && i <= VERTICES ? coefficients[i] : 0;
        }

        void compute(Graph graph) {
            countEdges(graph);
            Arrays.fill(product, 0L);
            coefficients[VERTICES] = 1;
            for (int k = 1; k <= VERTICES; k++) {
                System.arraycopy(product, 0, power, 0, VERTICES * VERTICES);
                for (int v = 0; v < VERTICES; v++) {
                    power[VERTICES * v + v] += coefficients[VERTICES - k + 1];
                }
                multiply();
                coefficients[VERTICES - k] = -trace() / k;
            }
        }

        private void countEdges(Graph graph) {
            for (int u = 0; u < VERTICES; u++) {
                for (int v = 0; v < VERTICES; v++) {
                    int count = 0;
                    for (int letter = 0; letter < LETTERS; letter++) {
                        count += graph.has(u, letter, v) ? 1 : 0;
                    }
                    matrix[VERTICES * u + v] = count;
                }
            }
        }

        private void multiply() {
            for (int u = 0; u < VERTICES; u++) {
                for (int v = 0; v < VERTICES; v++) {
                    long sum = 0;
                    for (int w = 0; w < VERTICES; w++) {
                        sum += matrix[VERTICES * u + w] * power[VERTICES * w + v];
                    }
                    product[VERTICES * u + v] = sum;
                }
            }
        }

        private long trace() {
            long sum = 0;
            for (int v = 0; v < VERTICES; v++) {
                sum += product[VERTICES * v + v];
            }
            return sum;
        }
    }

    /** One of the arrays. A float holds every byte and every char exactly, so that floats serve all three types. */
    private static final class NumberRow {
        static final int BYTE = 0;
        static final int CHAR = 1;
        static final int FLOAT = 2;
        private static final int ABSENT = -1;

        private final float[] values = new float[LONGEST_ARRAY];
        private final boolean[] nans = new boolean[LONGEST_ARRAY];
        private int type = ABSENT;
        private int length;

        void create(int newType, int newLength) {
            type = newType;
            length = Math.max(0, Math.min(newLength, LONGEST_ARRAY));
            for (int i = 0; i < LONGEST_ARRAY; i++) {
                values[i] = 0;
                nans[i] = false;
            }
        }

        boolean exists() {
            return type != ABSENT;
        }

        int length() {
            return length;
        }

        boolean isFloat() {
            return type == FLOAT;
        }

        boolean hasIndex(int i) {
            return i >= 0 && i < length && i < LONGEST_ARRAY;
        }

        void set(int i, int v) {
            if (hasIndex(i)) {
                values[i] = type == FLOAT ? v / 8.0f : converted(v);
                nans[i] = false;
            }
        }

        void makeNaN(int i) {
            if (hasIndex(i)) {
                nans[i] = true;
            }
        }

        int order(int i, int j) {
            if (!hasIndex(i) || !hasIndex(j) || nans[i] || nans[j]) {
                return 3;
            }
            if (values[i] < values[j]) {
                return 0;
            }
            return values[i] > values[j] ? 2 : 1;
        }

        boolean holds(int i, long number) {
            return hasIndex(i) && !nans[i] && values[i] == converted(number);
        }

        private float converted(long number) {
            if (type == BYTE) {
                return (byte) number;
            }
            return type == CHAR ? (char) number : (float) number;
        }
    }
}
