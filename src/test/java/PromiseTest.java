/** The promises of the document, one method each, with answers that were worked out by hand. */
public final class PromiseTest {
    private static final int NONE = -1;
    private static final int BAD = -2;
    private static final int FULL = -3;
    private static final int REDUCIBLE = -4;
    private static final int TOO_LARGE = -5;
    private static final int NOTHING = -6;
    private static final int[] WRONG_SLOTS = {-1, 6, Integer.MIN_VALUE, Integer.MAX_VALUE};

    private static final String GOLDEN = "0a0;0b1;1a0";
    private static final String EVEN = "0a0;0b1;1b0";

    private static int wrong = 0;
    private static int promise = 0;

    public static void main(String[] args) {
        newObject();
        addEdge();
        removeEdge();
        targets();
        edges();
        feed();
        parse();
        random();
        essential();
        isIrreducible();
        period();
        words();
        growth();
        allows();
        writeWord();
        forbidden();
        writeForbidden();
        periodic();
        orbits();
        characteristic();
        cover();
        writeReset();
        memory();
        isMixing();
        writeDifference();
        union();
        intersect();
        reverse();
        relabel();
        forbid();
        writeGraph();
        output();
        undo();
        save();
        restore();
        createArray();
        setElement();
        setNaN();
        compareElements();
        checkCounts();
        constants();
        extremes();
        System.out.println(wrong == 0 ? "all answers are as due" : wrong + " answers are not as due");
        if (wrong != 0) {
            System.exit(1);
        }
    }

    private static void due(String what, long got, long want) {
        if (got != want) {
            wrong++;
            System.out.println("promise " + promise + ": " + what + " answered " + got + ", due is " + want);
        }
    }

    private static void dueText(String what, String got, String want) {
        if (!got.equals(want)) {
            wrong++;
            System.out.println("promise " + promise + ": " + what + " gave '" + got + "', due is '" + want + "'");
        }
    }

    private static SoficShift feedTo(SoficShift x, String text) {
        for (int i = 0; i < text.length(); i++) {
            x.feed(text.charAt(i));
        }
        return x;
    }

    /** A new object with graphs in the slots from 0. */
    private static SoficShift with(String... graphs) {
        SoficShift x = new SoficShift();
        for (int slot = 0; slot < graphs.length; slot++) {
            if (!graphs[slot].isEmpty()) {
                feedTo(x, graphs[slot]).parse(slot);
            }
        }
        return x;
    }

    private static String text(SoficShift x) {
        StringBuilder text = new StringBuilder();
        for (int i = 0; x.output(i) != NONE; i++) {
            text.append((char) x.output(i));
        }
        return text.toString();
    }

    private static String graph(SoficShift x, int slot) {
        x.writeGraph(slot);
        return text(x);
    }

    private static void newObject() {
        promise = 1;
        SoficShift x = new SoficShift();
        for (int slot = 0; slot < 6; slot++) {
            due("edges", x.edges(slot), 0);
            due("essential", x.essential(slot), 0);
        }
        due("output(0)", x.output(0), NONE);
        due("feed", x.feed('a'), 1);
        due("undo", x.undo(), NOTHING);
        due("restore", x.restore(), NOTHING);
        for (int array = 0; array < 4; array++) {
            due("compareElements", x.compareElements(array, 0, 0), -11);
        }
    }

    private static void addEdge() {
        promise = 2;
        SoficShift x = new SoficShift();
        due("first", x.addEdge(0, 0, 0, 0), 1);
        due("second", x.addEdge(0, 7, 3, 7), 2);
        due("other target", x.addEdge(0, 7, 3, 0), 3);
        due("other slot", x.addEdge(5, 7, 3, 0), 1);
        due("again", x.addEdge(0, 7, 3, 7), 3);
        dueText("graph", graph(x, 0), "0a0;7d0;7d7");
        due("the call that changed nothing is undone first", x.undo(), 0);
        due("edges after it", x.edges(0), 3);
        due("then the other slot", x.undo(), 5);
        due("edges after that", x.edges(5), 0);
        for (int bad : new int[] {-1, Integer.MIN_VALUE, Integer.MAX_VALUE}) {
            due("slot", x.addEdge(bad, 0, 0, 0), BAD);
            due("source", x.addEdge(0, bad, 0, 0), BAD);
            due("letter", x.addEdge(0, 0, bad, 0), BAD);
            due("target", x.addEdge(0, 0, 0, bad), BAD);
        }
        due("slot 6", x.addEdge(6, 0, 0, 0), BAD);
        due("source 8", x.addEdge(0, 8, 0, 0), BAD);
        due("letter 4", x.addEdge(0, 0, 4, 0), BAD);
        due("target 8", x.addEdge(0, 0, 0, 8), BAD);
        due("wrong calls are not recorded", x.undo(), 0);
        dueText("graph", graph(x, 0), "0a0;7d7");
    }

    private static void removeEdge() {
        promise = 3;
        SoficShift x = with(GOLDEN);
        due("present", x.removeEdge(0, 0, 1, 1), 2);
        due("absent now", x.removeEdge(0, 0, 1, 1), NONE);
        due("other target", x.removeEdge(0, 0, 0, 1), NONE);
        due("other slot", x.removeEdge(1, 0, 0, 0), NONE);
        dueText("graph", graph(x, 0), "0a0;1a0");
        due("slot", x.removeEdge(6, 0, 0, 0), BAD);
        due("source", x.removeEdge(0, 8, 0, 0), BAD);
        due("letter", x.removeEdge(0, 0, 4, 0), BAD);
        due("target", x.removeEdge(0, 0, 0, 8), BAD);
        due("negative", x.removeEdge(-1, -1, -1, -1), BAD);
        due("undo of the one that removed", x.undo(), 0);
        dueText("graph again", graph(x, 0), GOLDEN);
        due("undo of the parse", x.undo(), 0);
        due("nothing more", x.undo(), NOTHING);
        x.addEdge(2, 3, 2, 3);
        due("the last edge", x.removeEdge(2, 3, 2, 3), 0);
    }

    private static void targets() {
        promise = 4;
        SoficShift x = with("0a0;0a3;0a7;0b1;7d7");
        due("three", x.targets(0, 0, 0), 1 + 8 + 128);
        due("one", x.targets(0, 0, 1), 2);
        due("none", x.targets(0, 0, 2), 0);
        due("last", x.targets(0, 7, 3), 128);
        due("other slot", x.targets(1, 0, 0), 0);
        due("slot", x.targets(6, 0, 0), BAD);
        due("source", x.targets(0, 8, 0), BAD);
        due("letter", x.targets(0, 0, 4), BAD);
        due("negative source", x.targets(0, -1, 0), BAD);
        due("negative letter", x.targets(0, 0, -1), BAD);
        due("negative slot", x.targets(-1, 0, 0), BAD);
    }

    private static void edges() {
        promise = 5;
        SoficShift x = with("0a1;2b3", GOLDEN);
        due("outside the essential part", x.edges(0), 2);
        due("golden", x.edges(1), 3);
        due("empty", x.edges(5), 0);
        for (int slot : WRONG_SLOTS) {
            due("slot", x.edges(slot), BAD);
        }
    }

    private static void feed() {
        promise = 6;
        SoficShift x = new SoficShift();
        due("lowest", x.feed(1), 1);
        due("highest", x.feed(127), 2);
        due("zero", x.feed(0), BAD);
        due("128", x.feed(128), BAD);
        due("negative", x.feed(-1), BAD);
        due("a byte in the low bits", x.feed(256 + 'a'), BAD);
        for (int i = 3; i <= 120; i++) {
            due("to the limit", x.feed('a'), i);
        }
        due("full", x.feed('a'), FULL);
        due("the range comes first", x.feed(0), BAD);
        due("emptied by a reading", x.allows(0), -100);
        due("room again", x.feed('a'), 1);
    }

    private static void parse() {
        promise = 7;
        SoficShift x = new SoficShift();
        due("no text", x.parse(0), -100);
        due("golden", feedTo(x, GOLDEN).parse(0), 3);
        due("doubled", feedTo(x, "7d7;7d7;0a0").parse(1), 2);
        dueText("stored", graph(x, 1), "0a0;7d7");
        String[] bad = {"8a0", "/a0", "a", "0e0", "0`0", "00", "0a8", "0aa", "0a0,", "0a0 ", " 0a0", "0a0;;", "0a0;8", "0A0", "0a0;0b",
            "0", "0a", "0a0;", "0a0;1", "0a0;1b"};
        int[] position = {0, 0, 0, 1, 1, 1, 2, 2, 3, 3, 0, 4, 4, 1, 6, 1, 2, 4, 5, 6};
        for (int i = 0; i < bad.length; i++) {
            due("'" + bad[i] + "'", feedTo(x, bad[i]).parse(1), -100 - position[i]);
        }
        dueText("kept after errors", graph(x, 1), "0a0;7d7");
        feedTo(x, "2b2");
        for (int slot : WRONG_SLOTS) {
            due("slot", x.parse(slot), BAD);
        }
        due("the text was kept", x.parse(2), 1);
        due("and is gone now", x.parse(2), -100);
        due("history", x.undo(), 2);
        due("history", x.undo(), 1);
        due("errors are not in it", x.undo(), 0);
        due("nothing more", x.undo(), NOTHING);
        due("30 edges", feedTo(x, "0a0;0a1;0a2;0a3;0a4;0a5;0a6;0a7;0b0;0b1;0b2;0b3;0b4;0b5;0b6;0b7;0c0;0c1;0c2;0c3;0c4;0c5;0c6;0c7;"
                + "0d0;0d1;0d2;0d3;0d4;0d5").parse(0), 30);
        due("a text of 120 bytes", feedTo(x, "0a0;".repeat(30)).parse(0), -220);
    }

    private static void random() {
        promise = 8;
        SoficShift x = new SoficShift();
        due("document's run", x.random(0, 5, 20), 19);
        due("one edge", x.random(1, 0, 1), 1);
        // z is 12345, then -740551042, then -1492899873; their upper halves are 0, 54236 and 42756.
        dueText("it", graph(x, 1), "0a4");
        due("no edge", x.random(1, 7, 0), 0);
        due("stored", x.edges(1), 0);
        due("history", x.undo(), 1);
        dueText("undone", graph(x, 1), "0a4");
        due("n 25", x.random(1, 0, 25), BAD);
        due("n -1", x.random(1, 0, -1), BAD);
        for (int slot : WRONG_SLOTS) {
            due("slot", x.random(slot, 0, 1), BAD);
        }
        due("seed below", x.random(2, Integer.MIN_VALUE, 24) > 0 ? 1 : 0, 1);
    }

    private static void essential() {
        promise = 9;
        SoficShift x = with("0a1;1a1;1b2", "0a1;1a0;1a2;2b3;3b2", "0a1;1a2;2a3", "7a7", "0a0;0a1;1a2;2a2;3a0;2a4");
        due("only the loop", x.essential(0), 2);
        due("two cycles", x.essential(1), 15);
        due("no cycle", x.essential(2), 0);
        due("vertex 7", x.essential(3), 128);
        due("between two loops", x.essential(4), 7);
        due("empty", x.essential(5), 0);
        for (int slot : WRONG_SLOTS) {
            due("slot", x.essential(slot), BAD);
        }
    }

    private static void isIrreducible() {
        promise = 10;
        SoficShift x = with("0a1;1a0;2a0;1b3", "0a0;0a1;1a1", "0a0;1b1", "3a3", "0a1;1a2;2a3;3a4;4a5;5a6;6a7;7a0");
        due("others outside the essential part", x.isIrreducible(0), 1);
        due("one way only", x.isIrreducible(1), 0);
        due("two parts", x.isIrreducible(2), 0);
        due("one loop", x.isIrreducible(3), 1);
        due("long cycle", x.isIrreducible(4), 1);
        due("empty", x.isIrreducible(5), 0);
        for (int slot : WRONG_SLOTS) {
            due("slot", x.isIrreducible(slot), BAD);
        }
    }

    private static void period() {
        promise = 11;
        SoficShift x = with("0a1;1a2;2a0", "0a1;1a0;2a3;3a4;4a5;5a2", "0a1;1a0;2a3;3a4;4a2", "0a1;1a2;2a3;3a4;4a5;5a6;6a7;7a0;7b2",
            "0a1;1a2");
        due("3", x.period(0), 3);
        due("2 and 4", x.period(1), 2);
        due("2 and 3", x.period(2), 1);
        due("8 and 6", x.period(3), 2);
        due("none", x.period(4), 0);
        due("empty", x.period(5), 0);
        for (int slot : WRONG_SLOTS) {
            due("slot", x.period(slot), BAD);
        }
    }

    private static void words() {
        promise = 12;
        SoficShift x = with(GOLDEN, "0a0;0b0;0c0;0d0", "0a0;0a1;1a0", EVEN, "0a0;0b1;1c1");
        due("golden 0", x.words(0, 0), 1);
        due("golden 4", x.words(0, 4), 8);
        due("all words of 30", x.words(1, 30), 1L << 60);
        due("one letter, many paths", x.words(2, 30), 1);
        due("even 3: not bab reversed, only aba", x.words(3, 3), 7);
        due("a..abc..c", x.words(4, 3), 1 + 1 + 1 + 1 + 1);
        due("empty 0", x.words(5, 0), 0);
        due("empty 9", x.words(5, 9), 0);
        due("n 31", x.words(0, 31), BAD);
        due("n -1", x.words(0, -1), BAD);
        for (int slot : WRONG_SLOTS) {
            due("slot", x.words(slot, 0), BAD);
        }
    }

    private static void growth() {
        promise = 13;
        SoficShift x = with(GOLDEN, "0a0;0b0;0c0;0d0", "0a0", "0a1;1a0;1b0");
        due("golden 2 over 1", x.growth(0, 0, 0), 2);
        due("golden 2 over 1", x.growth(0, 0, 1), 1);
        due("golden 3 over 2", x.growth(0, 1, 0), 3);
        due("golden 3 over 2", x.growth(0, 1, 1), 2);
        due("golden at 29", x.growth(0, 29, 0), 2178309);
        due("golden at 29", x.growth(0, 29, 1), 1346269);
        due("lowest terms", x.growth(1, 29, 0), 4);
        due("lowest terms", x.growth(1, 29, 1), 1);
        due("one word", x.growth(2, 3, 0), 1);
        // a b, then aa ab ba, then aaa aab aba baa bab
        due("5 over 3", x.growth(3, 2, 0), 5);
        due("5 over 3", x.growth(3, 2, 1), 3);
        due("no words", x.growth(5, 3, 0), 0);
        due("no words", x.growth(5, 3, 1), 1);
        due("n 30", x.growth(0, 30, 0), BAD);
        due("n -1", x.growth(0, -1, 0), BAD);
        due("part 2", x.growth(0, 0, 2), BAD);
        due("part -1", x.growth(0, 0, -1), BAD);
        for (int slot : WRONG_SLOTS) {
            due("slot", x.growth(slot, 0, 0), BAD);
        }
    }

    private static void allows() {
        promise = 14;
        SoficShift x = with(GOLDEN, "0a0;0b1");
        due("empty word", x.allows(0), 1);
        due("empty word, no vertex", x.allows(5), 0);
        due("abab", feedTo(x, "abab").allows(0), 1);
        due("bb", feedTo(x, "abba").allows(0), 0);
        due("an edge outside", feedTo(x, "b").allows(1), 0);
        due("a letter that no edge has", feedTo(x, "d").allows(0), 0);
        due("e", feedTo(x, "abe").allows(0), -102);
        due("A", feedTo(x, "A").allows(0), -100);
        due("sign below a", feedTo(x, "a`").allows(0), -101);
        due("emptied", x.allows(0), 1);
        feedTo(x, "bb");
        for (int slot : WRONG_SLOTS) {
            due("slot", x.allows(slot), BAD);
        }
        due("kept", x.allows(0), 0);
        due("120 letters", feedTo(x, "a".repeat(120)).allows(0), 1);
        due("error at 119", feedTo(x, "a".repeat(119) + "z").allows(0), -219);
        due("not recorded", x.undo(), 1);
    }

    private static void writeWord() {
        promise = 15;
        SoficShift x = with(GOLDEN, "0a0;0b0;0c0;0d0");
        String[] three = {"aaa", "aab", "aba", "baa", "bab"};
        for (int i = 0; i < three.length; i++) {
            due("golden", x.writeWord(0, 3, i), 3);
            dueText("word " + i, text(x), three[i]);
        }
        due("behind the last", x.writeWord(0, 3, 5), NONE);
        dueText("kept", text(x), "bab");
        due("negative", x.writeWord(0, 3, -1), NONE);
        due("lowest long", x.writeWord(0, 3, Long.MIN_VALUE), NONE);
        due("a long whose int is 0", x.writeWord(0, 3, 1L << 32), NONE);
        due("no vertex", x.writeWord(5, 0, 0), NONE);
        dueText("kept", text(x), "bab");
        due("n 31", x.writeWord(0, 31, 0), BAD);
        due("n -1", x.writeWord(0, -1, 0), BAD);
        due("range before number", x.writeWord(0, 31, -1), BAD);
        for (int slot : WRONG_SLOTS) {
            due("slot", x.writeWord(slot, 0, 0), BAD);
        }
        dueText("kept", text(x), "bab");
        due("the last of all", x.writeWord(1, 30, (1L << 60) - 1), 30);
        dueText("it", text(x), "d".repeat(30));
        due("one more", x.writeWord(1, 30, 1L << 60), NONE);
        due("digits", x.writeWord(1, 30, 0b11_10_01_00), 30);
        dueText("it", text(x), "a".repeat(26) + "dcba");
        due("empty word", x.writeWord(0, 0, 0), 0);
        dueText("it", text(x), "");
        due("only one", x.writeWord(0, 0, 1), NONE);
    }

    private static void forbidden() {
        promise = 16;
        SoficShift x = with(GOLDEN, EVEN, "0a0;0b0;0c0;0d0", "0a1;1a0;1b0", "0a1;1b0");
        due("golden: the letters c and d", x.forbidden(0, 1), 2);
        due("golden: bb", x.forbidden(0, 2), 1);
        due("golden 3", x.forbidden(0, 3), 0);
        due("even 2", x.forbidden(1, 2), 0);
        due("even 3: aba", x.forbidden(1, 3), 1);
        due("even 4", x.forbidden(1, 4), 0);
        due("even 5: abbba", x.forbidden(1, 5), 1);
        due("even 6", x.forbidden(1, 6), 0);
        due("full 1", x.forbidden(2, 1), 0);
        due("full 6", x.forbidden(2, 6), 0);
        due("bb", x.forbidden(3, 2), 1);
        due("alternating: aa and bb", x.forbidden(4, 2), 2);
        due("no vertex: the empty word is not allowed", x.forbidden(5, 1), 0);
        due("no vertex", x.forbidden(5, 2), 0);
        due("n 0", x.forbidden(0, 0), BAD);
        due("n 7", x.forbidden(0, 7), BAD);
        for (int slot : WRONG_SLOTS) {
            due("slot", x.forbidden(slot, 1), BAD);
        }
    }

    private static void writeForbidden() {
        promise = 17;
        SoficShift x = with(EVEN, "0a1;1b0", "0c0");
        due("even", x.writeForbidden(0, 5, 0), 5);
        dueText("it", text(x), "abbba");
        due("no other", x.writeForbidden(0, 5, 1), NONE);
        due("negative", x.writeForbidden(0, 5, -1), NONE);
        due("far", x.writeForbidden(0, 5, Integer.MAX_VALUE), NONE);
        due("none of 6", x.writeForbidden(0, 6, 0), NONE);
        dueText("kept", text(x), "abbba");
        due("first", x.writeForbidden(1, 2, 0), 2);
        dueText("it", text(x), "aa");
        due("second", x.writeForbidden(1, 2, 1), 2);
        dueText("it", text(x), "bb");
        String[] letters = {"a", "b", "d"};
        for (int i = 0; i < 3; i++) {
            due("letters", x.writeForbidden(2, 1, i), 1);
            dueText("it", text(x), letters[i]);
        }
        due("no vertex", x.writeForbidden(5, 1, 0), NONE);
        due("n 0", x.writeForbidden(0, 0, 0), BAD);
        due("n 7", x.writeForbidden(0, 7, 0), BAD);
        due("range before number", x.writeForbidden(0, 7, -1), BAD);
        for (int slot : WRONG_SLOTS) {
            due("slot", x.writeForbidden(slot, 1, 0), BAD);
        }
        dueText("kept", text(x), "d");
    }

    private static void periodic() {
        promise = 18;
        SoficShift x = with(GOLDEN, EVEN, "0a0;0b0;0c0;0d0", "0a1;1a0", "0a0;0b1;1c1");
        int[] lucas = {1, 3, 4, 7, 11, 18, 29};
        for (int n = 1; n <= 7; n++) {
            due("golden " + n, x.periodic(0, n), lucas[n - 1]);
            due("full " + n, x.periodic(2, n), 1 << 2 * n);
            due("one letter, cycle of two " + n, x.periodic(3, n), 1);
            due("a and c, never b " + n, x.periodic(4, n), 2);
            due("empty", x.periodic(5, n), 0);
        }
        due("even 1: a and b", x.periodic(1, 1), 2);
        due("even 2: aa and bb, not ab", x.periodic(1, 2), 2);
        due("even 3: aaa, bbb, abb and its rotations", x.periodic(1, 3), 5);
        due("n 0", x.periodic(0, 0), BAD);
        due("n 8", x.periodic(0, 8), BAD);
        for (int slot : WRONG_SLOTS) {
            due("slot", x.periodic(slot, 1), BAD);
        }
    }

    private static void orbits() {
        promise = 19;
        SoficShift x = with(GOLDEN, EVEN, "0a0;0b0;0c0;0d0", "0a1;1a0");
        int[] golden = {1, 1, 1, 1, 2, 2, 4};
        int[] full = {4, 6, 20, 60, 204, 670, 2340};
        for (int n = 1; n <= 7; n++) {
            due("golden " + n, x.orbits(0, n), golden[n - 1]);
            due("full " + n, x.orbits(2, n), full[n - 1]);
            due("one letter " + n, x.orbits(3, n), n == 1 ? 1 : 0);
            due("empty", x.orbits(5, n), 0);
        }
        due("even 3: abb", x.orbits(1, 3), 1);
        due("n 0", x.orbits(0, 0), BAD);
        due("n 8", x.orbits(0, 8), BAD);
        for (int slot : WRONG_SLOTS) {
            due("slot", x.orbits(slot, 1), BAD);
        }
    }

    private static void characteristic() {
        promise = 20;
        SoficShift x = with("0a0;0b0;0a5;5c0;3a0;5d4", "0a0;0b0;0c0;0d0", "0a1;1a2;2a3;3a4;4a5;5a6;6a7;7a0;0b1", "0a0;1a1;1b1;2a2;2b2;2c2");
        // Vertices 0 and 5 stay: x squared minus 2 x minus 1.
        due("power 0", x.characteristic(0, 0), -1);
        due("power 1", x.characteristic(0, 1), -2);
        due("power 2", x.characteristic(0, 2), 1);
        due("power 3", x.characteristic(0, 3), SoficShift.NO_NUMBER);
        due("four loops", x.characteristic(1, 0), -4);
        due("four loops", x.characteristic(1, 1), 1);
        due("cycle of 8 with a doubled edge", x.characteristic(2, 0), -2);
        due("power 8", x.characteristic(2, 8), 1);
        due("power 4", x.characteristic(2, 4), 0);
        due("power 9", x.characteristic(2, 9), SoficShift.NO_NUMBER);
        // (x - 1) (x - 2) (x - 3)
        due("power 0", x.characteristic(3, 0), -6);
        due("power 1", x.characteristic(3, 1), 11);
        due("power 2", x.characteristic(3, 2), -6);
        due("power 3", x.characteristic(3, 3), 1);
        due("without vertices", x.characteristic(5, 0), 1);
        due("without vertices", x.characteristic(5, 1), SoficShift.NO_NUMBER);
        due("negative", x.characteristic(0, -1), SoficShift.NO_NUMBER);
        for (int slot : WRONG_SLOTS) {
            due("slot", x.characteristic(slot, 0), SoficShift.NO_NUMBER);
        }
    }

    private static void cover() {
        promise = 21;
        SoficShift x = with("7a7;7b3;3b7", "0a0;0a1;1b0;1a1;0b1", "0a0;1b1", "0a1;1a2;2a0;2b0");
        due("even", x.cover(0, 4), 2);
        dueText("its vertex 0 is behind a", graph(x, 4), EVEN);
        due("two letters, all words", x.cover(1, 1), 1);
        dueText("in its own slot", graph(x, 1), "0a0;0b0");
        due("history", x.undo(), 1);
        due("edges", x.edges(1), 5);
        due("two parts", x.cover(2, 4), REDUCIBLE);
        due("empty", x.cover(5, 4), REDUCIBLE);
        dueText("kept", graph(x, 4), EVEN);
        due("three", x.cover(3, 3), 3);
        // b can stand at every third place only: behind b is vertex 0.
        dueText("numbers", graph(x, 3), "0a1;1a2;2a0;2b0");
        for (int slot : WRONG_SLOTS) {
            due("slot", x.cover(slot, 0), BAD);
            due("target", x.cover(0, slot), BAD);
            due("both before reducible", x.cover(2, slot), BAD);
        }
        SoficShift y = with(SUBSETS_OF_8);
        due("irreducible", y.isIrreducible(0), 1);
        due("too large", y.cover(0, 1), TOO_LARGE);
        due("nothing stored", y.edges(1), 0);
        due("nothing recorded", y.undo(), 0);
        due("nothing more", y.undo(), NOTHING);
    }

    // Whether the letter seven places back was b cannot be known with fewer than 2 to the 7 vertices.
    private static final String SUBSETS_OF_8 =
            "0a0;0b0;0b1;1a2;1b2;2a3;2b3;3a4;3b4;4a5;4b5;5a6;5b6;6a7;6b7;7c0";

    private static void writeReset() {
        promise = 22;
        SoficShift x = with(GOLDEN, "3a3;3b3", EVEN, "0a1;1a2;2a3;3a0;0b1;1c2", "0a0;1b1");
        due("golden", x.writeReset(0), 1);
        dueText("it", text(x), "a");
        due("one vertex", x.writeReset(1), 0);
        dueText("it", text(x), "");
        due("even", x.writeReset(2), 1);
        dueText("it", text(x), "a");
        due("b ends at one vertex, a does not", x.writeReset(3), 1);
        dueText("it", text(x), "b");
        due("reducible", x.writeReset(4), REDUCIBLE);
        due("empty", x.writeReset(5), REDUCIBLE);
        dueText("kept", text(x), "b");
        for (int slot : WRONG_SLOTS) {
            due("slot", x.writeReset(slot), BAD);
        }
        due("too large", with(SUBSETS_OF_8).writeReset(0), TOO_LARGE);
        // a ends at all three vertices, b at 0 and 2, c at 0 and 1; bc and cb end at 0 alone.
        SoficShift y = with("3a1;3b3;3c3;1a2;1b3;1c1;2a3;2b2");
        due("two letters", y.writeReset(0), 2);
        dueText("the lower one", text(y), "bc");
        due("the cover is the graph", y.cover(0, 1), 3);
        dueText("with its numbers", graph(y, 1), "0a1;0b0;0c0;1a2;1b0;1c1;2a0;2b2");
    }

    private static void memory() {
        promise = 23;
        SoficShift x = with(GOLDEN, EVEN, "0a0;0b0", "0a1;1b2;2a3;3c0", "0a0;1b1");
        due("golden", x.memory(0), 1);
        due("even", x.memory(1), NONE);
        due("one vertex", x.memory(2), 0);
        due("abac: one letter more than a", x.memory(3), 2);
        due("reducible", x.memory(4), REDUCIBLE);
        due("empty", x.memory(5), REDUCIBLE);
        for (int slot : WRONG_SLOTS) {
            due("slot", x.memory(slot), BAD);
        }
        due("too large", with(SUBSETS_OF_8).memory(0), TOO_LARGE);
        due("seven a and a b", with("0a1;1a2;2a3;3a4;4a5;5a6;6a7;7b0").memory(0), 7);
        // Eight vertices have 28 pairs, each of which two paths can pass once: no finite memory is higher.
        due("27", with("0a0;0c1;0d6;1a2;1b1;1c4;1d5;2a3;3a4;3b7;3c4;4a5;4c4;5a6;6a7;6d1;7b0;7c2;7d4").memory(0), 27);
        due("28", with("0a1;0b2;0d0;1a2;1d4;2a3;2d7;3a4;3b3;3c1;3d1;4a5;5a6;5b0;5c4;6a7;6c0;7c7;7d6").memory(0), 28);
    }

    private static void isMixing() {
        promise = 24;
        SoficShift x = with(GOLDEN, "0a1;1b0", "0a1;1a0", "0a1;1b2;2a3;3c0;0d3", "0a0;1b1");
        due("golden", x.isMixing(0), 1);
        due("alternating", x.isMixing(1), 0);
        due("the cover counts, not the graph", x.isMixing(2), 1);
        due("4 and 2", x.isMixing(3), 0);
        due("reducible", x.isMixing(4), REDUCIBLE);
        due("empty", x.isMixing(5), REDUCIBLE);
        for (int slot : WRONG_SLOTS) {
            due("slot", x.isMixing(slot), BAD);
        }
        due("too large", with(SUBSETS_OF_8).isMixing(0), TOO_LARGE);
    }

    private static void writeDifference() {
        promise = 25;
        SoficShift x = with(GOLDEN, EVEN, "5a5;5b2;2a5", "0a0;0b0", "");
        due("aba before bb? two letters win", x.writeDifference(0, 1), 2);
        dueText("it", text(x), "bb");
        due("the other way", x.writeDifference(1, 0), 2);
        due("the same", x.writeDifference(0, 2), NONE);
        dueText("kept", text(x), "bb");
        due("all words and even", x.writeDifference(3, 1), 3);
        dueText("it", text(x), "aba");
        due("none at all: the empty word", x.writeDifference(4, 3), 0);
        dueText("it", text(x), "");
        due("both empty", x.writeDifference(4, 5), NONE);
        due("with itself", x.writeDifference(1, 1), NONE);
        for (int slot : WRONG_SLOTS) {
            due("first", x.writeDifference(slot, 0), BAD);
            due("second", x.writeDifference(0, slot), BAD);
        }
        // One reads a b a c, the other a c a b: both have the same words of one and two letters.
        SoficShift y = with("0a1;1b0;0a2;2c0", "0a1;1b2;2a3;3c0");
        due("three", y.writeDifference(0, 1), 3);
        dueText("lowest", text(y), "bab");
        farDifference();
    }

    /** Both graphs allow all words of a, b and d, until seven b have emptied the ring of the first; a search of many pairs. */
    private static void farDifference() {
        String ring = "1a2;2a3;3a4;4a5;5a6;6a7;7a1;2b2;3b3;4b4;5b5;6b6;7b7;1d1;2d2;3d3;4d4;5d5;6d6;7d7;1d0;2d0;3d0;4d0;5d0;6d0;7d0";
        String register = "0b1;1a2;1b2;2a3;2b3;3a4;3b4;4a5;4b5;5a6;5b6;6a7;6b7;7a0";
        SoficShift x = with("0a0;0b0;" + ring, "0a0;0b0;0d0;" + register, "0a0;0b0;0d0", GOLDEN);
        for (int round = 0; round < 2; round++) {
            due("far", x.writeDifference(0, 1), 14);
            dueText("it", text(x), "bababababababd");
            due("near", x.writeDifference(1, 3), 1);
            dueText("it", text(x), "d");
            due("far, the other way", x.writeDifference(1, 0), 14);
            dueText("it", text(x), "bababababababd");
            due("all words of the letters", x.writeDifference(2, 1), NONE);
        }
    }

    private static void union() {
        promise = 26;
        SoficShift x = with("1a1;1b4;4a1;4c7", "2d5;5d2;0a2", "0a1;1a2;2a3;3a0;0b4;4a5;5a6;6a0", "0a0;0b1;1b2;2b0");
        due("two and two", x.union(0, 1, 4), 4);
        dueText("numbers", graph(x, 4), "0a0;0b1;1a0;2d3;3d2");
        due("the other way", x.union(1, 0, 4), 4);
        dueText("numbers", graph(x, 4), "0d1;1d0;2a2;2b3;3a2");
        due("7 and 3", x.union(2, 3, 4), FULL);
        dueText("kept", graph(x, 4), "0d1;1d0;2a2;2b3;3a2");
        due("with nothing", x.union(5, 0, 4), 2);
        dueText("numbers", graph(x, 4), "0a0;0b1;1a0");
        due("nothing with nothing", x.union(5, 5, 4), 0);
        due("stored", x.edges(4), 0);
        due("history", x.undo(), 4);
        dueText("undone", graph(x, 4), "0a0;0b1;1a0");
        due("to its own source", x.union(0, 0, 0), 4);
        dueText("numbers", graph(x, 0), "0a0;0b1;1a0;2a2;2b3;3a2");
        due("eight", x.union(0, 0, 0), 8);
        due("more", x.union(0, 3, 0), FULL);
        for (int slot : WRONG_SLOTS) {
            due("first", x.union(slot, 0, 0), BAD);
            due("second", x.union(0, slot, 0), BAD);
            due("target before full", x.union(0, 0, slot), BAD);
        }
    }

    private static void intersect() {
        promise = 27;
        SoficShift x = with(GOLDEN, EVEN, "0a1;1a2;2a0", "0a1;1a2;2a3;3a0", "0c0");
        due("golden and even", x.intersect(0, 1, 5), 1);
        dueText("only a", graph(x, 5), "0a0");
        due("golden with itself", x.intersect(0, 0, 5), 2);
        dueText("numbers", graph(x, 5), GOLDEN);
        due("3 times 4", x.intersect(2, 3, 5), FULL);
        dueText("kept", graph(x, 5), GOLDEN);
        due("no letter in common", x.intersect(0, 4, 5), 0);
        due("stored", x.edges(5), 0);
        due("history", x.undo(), 5);
        due("order of u, then v", feedTo(x, "0a0;0a1;1a0;1b1").parse(5), 4);
        due("order of u, then v", x.intersect(5, 2, 5), 6);
        dueText("numbers", graph(x, 5), "0a1;0a4;1a2;1a5;2a0;2a3;3a1;4a2;5a0");
        for (int slot : WRONG_SLOTS) {
            due("first", x.intersect(slot, 0, 0), BAD);
            due("second", x.intersect(0, slot, 0), BAD);
            due("target before full", x.intersect(2, 3, slot), BAD);
        }
    }

    private static void reverse() {
        promise = 28;
        SoficShift x = with("0a1;1b2;0b1;3d3");
        due("four", x.reverse(0, 1), 4);
        dueText("reversed", graph(x, 1), "1a0;1b0;2b1;3d3");
        due("in place", x.reverse(0, 0), 4);
        dueText("reversed", graph(x, 0), "1a0;1b0;2b1;3d3");
        due("history", x.undo(), 0);
        dueText("undone", graph(x, 0), "0a1;0b1;1b2;3d3");
        due("empty", x.reverse(5, 1), 0);
        due("stored", x.edges(1), 0);
        for (int slot : WRONG_SLOTS) {
            due("slot", x.reverse(slot, 0), BAD);
            due("target", x.reverse(0, slot), BAD);
        }
    }

    private static void relabel() {
        promise = 29;
        SoficShift x = with("0a1;0b1;0b2;3c3");
        due("two become one", x.relabel(0, 1, 0, 1), 3);
        dueText("it", graph(x, 1), "0a1;0a2;3c3");
        due("to a new letter", x.relabel(0, 0, 3, 1), 4);
        dueText("it", graph(x, 1), "0b1;0b2;0d1;3c3");
        due("the same letter", x.relabel(0, 2, 2, 0), 4);
        due("counts for the history", x.undo(), 0);
        dueText("it", graph(x, 0), "0a1;0b1;0b2;3c3");
        due("history", x.undo(), 1);
        dueText("undone", graph(x, 1), "0a1;0a2;3c3");
        due("from 4", x.relabel(0, 4, 0, 0), BAD);
        due("from -1", x.relabel(0, -1, 0, 0), BAD);
        due("to 4", x.relabel(0, 0, 4, 0), BAD);
        due("to -1", x.relabel(0, 0, -1, 0), BAD);
        for (int slot : WRONG_SLOTS) {
            due("slot", x.relabel(slot, 0, 0, 0), BAD);
            due("target", x.relabel(0, 0, 0, slot), BAD);
        }
    }

    private static void forbid() {
        promise = 30;
        SoficShift x = with("0a0;0b0", EVEN, "0a0;0b1;1a2;2a3;3b0;1b1");
        due("bb", feedTo(x, "bb").forbid(0, 3), 2);
        dueText("golden", graph(x, 3), GOLDEN);
        due("aba: a suffix that overlaps", feedTo(x, "aba").forbid(0, 3), 3);
        dueText("tracking", graph(x, 3), "0a1;0b0;1a1;1b2;2b0");
        due("aab", feedTo(x, "aab").forbid(0, 3), 3);
        dueText("tracking", graph(x, 3), "0a1;0b0;1a2;1b0;2a2");
        due("a letter", feedTo(x, "a").forbid(0, 3), 1);
        dueText("tracking", graph(x, 3), "0b0");
        due("a letter that is not there", feedTo(x, "d").forbid(0, 3), 1);
        due("six letters", feedTo(x, "aaaaab").forbid(0, 3), 6);
        due("two vertices, the order of v, then k", feedTo(x, "bba").forbid(1, 3), 4);
        dueText("tracking", graph(x, 3), "0a0;0b2;1b3;2b1;3b1");
        due("full", feedTo(x, "ababab").forbid(2, 3), FULL);
        due("emptied after full", x.allows(0), 1);
        due("seven letters", feedTo(x, "aaaaaaa").forbid(0, 3), BAD);
        due("emptied after seven", x.allows(0), 1);
        due("no letter", x.forbid(0, 3), BAD);
        due("not a word", feedTo(x, "abx").forbid(0, 3), -102);
        due("not a word before too long", feedTo(x, "aaaaaaa;").forbid(0, 3), -107);
        due("emptied", x.feed('b'), 1);
        for (int slot : WRONG_SLOTS) {
            due("slot", x.forbid(slot, 0), BAD);
            due("target", x.forbid(0, slot), BAD);
        }
        dueText("kept after errors", graph(x, 3), "0a0;0b2;1b3;2b1;3b1");
        due("the input was kept, and the target may be the source", x.forbid(0, 0), 1);
        dueText("it", graph(x, 0), "0a0");
        due("history", x.undo(), 0);
        dueText("undone", graph(x, 0), "0a0;0b0");
        due("nothing is left", feedTo(x, "a").forbid(5, 0), 0);
        due("stored", x.edges(0), 0);
    }

    private static void writeGraph() {
        promise = 31;
        SoficShift x = with("7d7;0b1;0b0;0a7;3c2;0a7");
        due("length", x.writeGraph(0), 19);
        dueText("order of source, letter and target", text(x), "0a7;0b0;0b1;3c2;7d7");
        for (int slot : WRONG_SLOTS) {
            due("slot", x.writeGraph(slot), BAD);
        }
        dueText("kept", text(x), "0a7;0b0;0b1;3c2;7d7");
        due("empty", x.writeGraph(1), 0);
        dueText("empty", text(x), "");
        SoficShift y = new SoficShift();
        for (int i = 0; i < 256; i++) {
            y.addEdge(0, i / 32, i / 8 % 4, i % 8);
        }
        due("all edges", y.writeGraph(0), 1023);
        due("first", y.output(0), '0');
        due("last", y.output(1022), '7');
        due("last letter", y.output(1021), 'd');
        due("behind", y.output(1023), NONE);
    }

    private static void output() {
        promise = 32;
        SoficShift x = with(GOLDEN);
        due("at first", x.output(0), NONE);
        x.writeGraph(0);
        due("digit", x.output(0), 48);
        due("letter", x.output(1), 97);
        due("semicolon", x.output(3), 59);
        due("last", x.output(10), 48);
        due("behind", x.output(11), NONE);
        due("negative", x.output(-1), NONE);
        due("lowest", x.output(Integer.MIN_VALUE), NONE);
        due("highest", x.output(Integer.MAX_VALUE), NONE);
        x.writeWord(0, 1, 1);
        dueText("the latest text alone", text(x), "b");
    }

    private static void undo() {
        promise = 33;
        SoficShift x = new SoficShift();
        due("empty", x.undo(), NOTHING);
        for (int i = 0; i < 12; i++) {
            x.addEdge(i % 6, i / 6, 0, 0);
        }
        for (int i = 11; i >= 2; i--) {
            due("the latest first", x.undo(), i % 6);
            due("its edges", x.edges(i % 6), i / 6);
        }
        due("only ten are kept", x.undo(), NOTHING);
        due("the first two stay", x.edges(0) + x.edges(1), 2);
        x.random(3, 1, 5);
        x.reverse(3, 4);
        x.union(3, 4, 5);
        x.removeEdge(0, 0, 0, 0);
        due("removeEdge", x.undo(), 0);
        due("union may be full", x.undo() == 5 || x.edges(5) == 0 ? 1 : 0, 1);
        SoficShift y = with(GOLDEN);
        y.cover(0, 1);
        y.intersect(0, 0, 2);
        y.relabel(0, 0, 1, 3);
        feedTo(y, "bb").forbid(0, 4);
        y.union(0, 0, 5);
        y.reverse(0, 1);
        y.random(2, 1, 1);
        y.addEdge(3, 0, 0, 0);
        y.removeEdge(3, 0, 0, 0);
        for (int slot : new int[] {3, 3, 2, 1, 5, 4, 3, 2, 1, 0}) {
            due("each method", y.undo(), slot);
        }
        due("all gone", y.undo(), NOTHING);
        due("no edges", y.save(), 0);
    }

    private static void save() {
        promise = 34;
        SoficShift x = with(GOLDEN, EVEN, "0a0;0b0");
        due("total", x.save(), 8);
        x.addEdge(3, 0, 0, 0);
        due("a new total", x.save(), 9);
        x.removeEdge(3, 0, 0, 0);
        due("the later state", x.restore(), 9);
        due("its edge", x.edges(3), 1);
        due("empty", new SoficShift().save(), 0);
        SoficShift y = with(GOLDEN);
        y.save();
        due("the history is kept", y.undo(), 0);
    }

    private static void restore() {
        promise = 35;
        SoficShift x = with(GOLDEN);
        due("nothing saved", x.restore(), NOTHING);
        due("the history is kept then", x.undo(), 0);
        x = with(GOLDEN, EVEN);
        x.save();
        x.addEdge(0, 7, 3, 7);
        x.random(5, 3, 10);
        due("total", x.restore(), 6);
        dueText("slot 0", graph(x, 0), GOLDEN);
        dueText("slot 1", graph(x, 1), EVEN);
        due("slot 5", x.edges(5), 0);
        due("no history", x.undo(), NOTHING);
        x.removeEdge(1, 0, 0, 0);
        due("it stays saved", x.restore(), 6);
        dueText("slot 1", graph(x, 1), EVEN);
        SoficShift y = new SoficShift();
        y.save();
        due("an empty state is a saved state", y.restore(), 0);
    }

    private static void createArray() {
        promise = 36;
        SoficShift x = new SoficShift();
        for (int type = 0; type < 3; type++) {
            due("type", x.createArray(type, type, 30), 1);
            due("zeros", x.compareElements(type, 0, 29), 1);
            due("its end", x.compareElements(type, 0, 30), -13);
        }
        due("length 0", x.createArray(3, 0, 0), 1);
        due("no element", x.compareElements(3, 0, 0), -13);
        due("length 31", x.createArray(0, 0, 31), BAD);
        due("highest length", x.createArray(0, 0, Integer.MAX_VALUE), BAD);
        due("length -1", x.createArray(0, 0, -1), -14);
        due("lowest length", x.createArray(0, 0, Integer.MIN_VALUE), -14);
        due("array 4", x.createArray(4, 0, 1), BAD);
        due("array -1", x.createArray(-1, 0, -1), BAD);
        due("type 3", x.createArray(0, 3, -1), BAD);
        due("type -1", x.createArray(0, -1, 1), BAD);
        due("the old array stayed", x.setElement(0, 29, 1), 1);
        due("in its place", x.createArray(0, 2, 30), 1);
        due("zeros again", x.compareElements(0, 0, 29), 1);
        x.setNaN(0, 5);
        x.createArray(0, 2, 6);
        due("no NaN either", x.compareElements(0, 0, 5), 1);
    }

    private static void setElement() {
        promise = 37;
        SoficShift x = new SoficShift();
        due("absent", x.setElement(0, 0, 0), -11);
        due("value before absent", x.setElement(0, 0, 10000), BAD);
        x.createArray(0, 0, 3);
        x.createArray(1, 1, 3);
        x.createArray(2, 2, 3);
        due("value", x.setElement(0, 0, 9999), 1);
        due("value", x.setElement(0, 0, -9999), 1);
        due("10000", x.setElement(0, 0, 10000), BAD);
        due("-10000", x.setElement(0, 0, -10000), BAD);
        due("array 4", x.setElement(4, 0, 0), BAD);
        due("array -1", x.setElement(-1, 0, 0), BAD);
        due("index 3", x.setElement(0, 3, 0), -13);
        due("index -1", x.setElement(0, -1, 0), -13);
        due("highest index", x.setElement(0, Integer.MAX_VALUE, 0), -13);
        x.setElement(0, 0, 128);
        x.setElement(0, 1, -128);
        x.setElement(0, 2, 384);
        due("a byte of 128 is -128", x.compareElements(0, 0, 1), 1);
        due("and so is one of 384", x.compareElements(0, 0, 2), 1);
        x.setElement(1, 0, -1);
        x.setElement(1, 1, 9999);
        due("a char of -1 is 65535", x.compareElements(1, 0, 1), 2);
        x.setElement(2, 0, 8);
        x.setElement(2, 1, 9);
        x.setElement(2, 2, 15);
        due("eighths", x.compareElements(2, 0, 1), 0);
        due("eighths", x.compareElements(2, 1, 2), 0);
        x.setElement(2, 0, -1);
        x.setElement(2, 1, 0);
        due("negative eighths", x.compareElements(2, 0, 1), 0);
        x.setNaN(2, 0);
        x.setElement(2, 0, 0);
        due("a number in the place of NaN", x.compareElements(2, 0, 1), 1);
    }

    private static void setNaN() {
        promise = 38;
        SoficShift x = new SoficShift();
        due("absent", x.setNaN(0, 0), -11);
        x.createArray(0, 0, 2);
        x.createArray(1, 1, 2);
        x.createArray(2, 2, 2);
        due("byte", x.setNaN(0, 0), -12);
        due("char", x.setNaN(1, 0), -12);
        due("type before index", x.setNaN(1, 2), -12);
        due("float", x.setNaN(2, 1), 1);
        due("index 2", x.setNaN(2, 2), -13);
        due("index -1", x.setNaN(2, -1), -13);
        due("array 4", x.setNaN(4, 0), BAD);
        due("array -1", x.setNaN(-1, 0), BAD);
        due("it is NaN", x.compareElements(2, 1, 1), 3);
        due("the other is not", x.compareElements(2, 0, 0), 1);
    }

    private static void compareElements() {
        promise = 39;
        SoficShift x = new SoficShift();
        due("absent", x.compareElements(3, 5, 5), -11);
        for (int type = 0; type < 3; type++) {
            x.createArray(type, type, 2);
            x.setElement(type, 0, 5);
            x.setElement(type, 1, 6);
            due("less", x.compareElements(type, 0, 1), 0);
            due("equal", x.compareElements(type, 1, 1), 1);
            due("greater", x.compareElements(type, 1, 0), 2);
            due("first index", x.compareElements(type, 2, 0), -13);
            due("second index", x.compareElements(type, 0, 2), -13);
            due("negative index", x.compareElements(type, -1, 0), -13);
            due("negative index", x.compareElements(type, 0, -1), -13);
        }
        x.setElement(0, 0, -1);
        due("bytes have a sign", x.compareElements(0, 0, 1), 0);
        x.setElement(1, 0, -1);
        due("chars have none", x.compareElements(1, 0, 1), 2);
        x.setNaN(2, 0);
        due("NaN first", x.compareElements(2, 0, 1), 3);
        due("NaN second", x.compareElements(2, 1, 0), 3);
        due("NaN both", x.compareElements(2, 0, 0), 3);
        due("index before NaN", x.compareElements(2, 0, 2), -13);
        due("array 4", x.compareElements(4, 0, 0), BAD);
        due("array -1", x.compareElements(-1, 0, 0), BAD);
    }

    private static void checkCounts() {
        promise = 40;
        SoficShift x = with("0a0;0b0;0c0;0d0", GOLDEN);
        due("absent", x.checkCounts(0, 0), -11);
        x.createArray(0, 0, 30);
        int[] bytes = {1, 4, 16, 64};
        for (int i = 0; i < 30; i++) {
            due("zeros differ at " + i, x.checkCounts(0, 0), i < 4 ? i : NONE);
            if (i < 4) {
                x.setElement(0, i, bytes[i]);
            }
        }
        x.createArray(1, 1, 9);
        int count = 1;
        for (int i = 0; i < 7; i++) {
            x.setElement(1, i, count);
            count *= 4;
        }
        due("a char of 16384 cannot be set", x.checkCounts(1, 0), 7);
        x.createArray(1, 1, 7);
        for (int i = 0; i < 7; i++) {
            x.setElement(1, i, 1 << 2 * i);
        }
        due("chars", x.checkCounts(1, 0), NONE);
        x.createArray(2, 2, 5);
        int[] golden = {1, 2, 3, 5, 8};
        for (int i = 0; i < 5; i++) {
            due("floats", x.checkCounts(2, 1), i);
            x.setElement(2, i, 8 * golden[i]);
        }
        due("floats", x.checkCounts(2, 1), NONE);
        x.setElement(2, 3, 41);
        due("an eighth too much", x.checkCounts(2, 1), 3);
        x.setElement(2, 3, 40);
        x.setNaN(2, 2);
        due("NaN", x.checkCounts(2, 1), 2);
        due("zeros for an empty graph", x.createArray(3, 2, 30) + x.checkCounts(3, 5), 0);
        due("no elements", x.createArray(3, 1, 0) + x.checkCounts(3, 0), 0);
        due("array 4", x.checkCounts(4, 0), BAD);
        due("array -1", x.checkCounts(-1, 0), BAD);
        x = new SoficShift();
        for (int slot : WRONG_SLOTS) {
            due("slot before absent", x.checkCounts(0, slot), BAD);
        }
    }

    private static void constants() {
        promise = 0;
        due("NONE", SoficShift.NONE, -1);
        due("BAD_ARGUMENT", SoficShift.BAD_ARGUMENT, -2);
        due("FULL", SoficShift.FULL, -3);
        due("REDUCIBLE", SoficShift.REDUCIBLE, -4);
        due("TOO_LARGE", SoficShift.TOO_LARGE, -5);
        due("NOTHING_SAVED", SoficShift.NOTHING_SAVED, -6);
        due("NO_NUMBER", SoficShift.NO_NUMBER, Long.MIN_VALUE);
    }

    /** Every method with every mix of extreme arguments, on the fullest graphs: none of the calls may throw. */
    private static void extremes() {
        promise = 0;
        int[] values = {Integer.MIN_VALUE, -1, 0, 1, 2, 3, 7, 8, 30, 31, Integer.MAX_VALUE};
        for (int a : values) {
            for (int b : values) {
                // An object is good for 512 calls: 332 to fill it, and 153 with these values.
                SoficShift x = with(SUBSETS_OF_8, GOLDEN);
                for (int i = 0; i < 256; i++) {
                    x.addEdge(2, i / 32, i / 8 % 4, i % 8);
                }
                for (int c : values) {
                    callWithThree(x, a, b, c);
                }
                callWithTwo(x, a, b);
                due("still at work", x.words(1, 2) >= 0 ? 1 : 0, 1);
            }
        }
        due("all edges: mixing", fullGraph().isMixing(0), 1);
        due("all edges: cover", fullGraph().cover(0, 0), 1);
        due("all edges: difference", fullGraph().writeDifference(0, 0), NONE);
        due("all edges: characteristic", fullGraph().characteristic(0, 7), -32);
    }

    private static SoficShift fullGraph() {
        SoficShift x = new SoficShift();
        for (int i = 0; i < 256; i++) {
            x.addEdge(0, i / 32, i / 8 % 4, i % 8);
        }
        return x;
    }

    private static void callWithThree(SoficShift x, int a, int b, int c) {
        x.targets(a, b, c);
        x.growth(a, b, c);
        x.writeWord(a, b, c);
        x.writeForbidden(a, b, c);
        x.createArray(a, b, c);
        x.setElement(a, b, c);
        x.compareElements(a, b, c);
        x.save();
        x.random(a, b, c);
        x.union(a, b, c);
        x.intersect(a, b, c);
        x.restore();
    }

    private static void callWithTwo(SoficShift x, int a, int b) {
        x.words(a, b);
        x.forbidden(a, b);
        x.periodic(a, b);
        x.orbits(a, b);
        x.characteristic(a, b);
        x.writeDifference(a, b);
        x.setNaN(a, b);
        x.checkCounts(a, b);
        x.writeReset(a);
        x.memory(b);
        x.isMixing(a);
        x.save();
        x.cover(a, b);
        x.feed(b);
        x.forbid(a, b);
        x.reverse(a, b);
        x.relabel(a, b, 0, 1);
        x.parse(a);
        x.allows(b);
        x.undo();
        x.restore();
    }
}
