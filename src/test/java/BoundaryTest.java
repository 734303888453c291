import java.io.IOException;
import java.nio.file.Files;
import java.nio.file.Path;
import java.util.ArrayList;
import java.util.LinkedHashSet;
import java.util.List;
import java.util.Set;
import java.util.function.Supplier;

/**
 * Each sentence of the promises, quoted, with a test of its own, at the edges that it names; the sentences of the description
 * that name a boundary case count as promise 0. At the end the quotes are compared with the document: a sentence of a
 * promise that no test quotes is a fault, and so is a quote that the document does not have.
 */
public final class BoundaryTest {
    private static final int NONE = -1;
    private static final int BAD = -2;
    private static final int FULL = -3;
    private static final int REDUCIBLE = -4;
    private static final int TOO_LARGE = -5;
    private static final int NOTHING = -6;
    private static final long NO_NUMBER = Long.MIN_VALUE;
    private static final int NO_ARRAY = -11;
    private static final int NOT_FLOAT = -12;
    private static final int BAD_INDEX = -13;
    private static final int NEGATIVE = -14;
    private static final int LOWEST = Integer.MIN_VALUE;
    private static final int HIGHEST = Integer.MAX_VALUE;

    private static final String GOLDEN = "0a0;0b1;1a0";
    private static final String EVEN = "0a0;0b1;1b0";
    private static final String PARTED = "0a0;1b1";
    private static final String ALL_WORDS = "0a0;0b0;0c0;0d0";
    private static final String RING_OF_8 = "0a1;1a2;2a3;3a4;4a5;5a6;6a7;7a0";
    // c can follow where b stood three letters before, so that the cover knows the last three letters: 8 vertices. In the
    // second graph a vertex more stands behind c.
    private static final String COVER_OF_8 = "0a0;0b0;0b1;1a2;1b2;2a3;2b3;3c0";
    private static final String COVER_OF_9 = "0a0;0b0;0b1;1a2;1b2;2a3;2b3;3c4;4a0";

    // a turns the ring, b swaps 0 and 1, and c is missing at 7: every set of vertices is the end of some word, and all words of
    // a, b and c are allowed until 8 times c, with a between them, has found each vertex at 7.
    private static final String ALL_SETS = RING_OF_8 + ";0b1;1b0;2b2;3b3;4b4;5b5;6b6;7b7;0c0;1c1;2c2;3c3;4c4;5c5;6c6";

    private static final String SLOT = "`slot`: the slot, 0 to 5";
    private static final String SLOT_OF_GRAPH = "`slot`: the slot of the graph, 0 to 5";
    private static final String SLOT_AS_TARGET = "`slot`: the target slot, 0 to 5";
    private static final String TARGET_SLOT = "`target`: the target slot, 0 to 5";
    private static final String FIRST = "`first`: the slot of the first graph, 0 to 5";
    private static final String SECOND = "`second`: the slot of the second graph, 0 to 5";
    private static final String SOURCE = "`source`: the source vertex, 0 to 7";
    private static final String LETTER = "`letter`: the letter, 0 to 3";
    private static final String TARGET_VERTEX = "`target`: the target vertex, 0 to 7";
    private static final String ARRAY = "`array`: the array, 0 to 3";
    private static final String BAD_ANY = "BAD_ARGUMENT if an argument is out of range.";
    private static final String BAD_ANY_FIRST = "BAD_ARGUMENT if an argument is out of range (checked first)";
    private static final String BAD_SLOT = "BAD_ARGUMENT if the slot is out of range.";
    private static final String BAD_SLOT_FIRST = "BAD_ARGUMENT if the slot is out of range (checked first)";
    private static final String BAD_SLOT_OR_N_FIRST = "BAD_ARGUMENT if slot or n is out of range (checked first)";
    private static final String REDUCIBLE_SECOND = "REDUCIBLE if the graph is not irreducible (checked second)";
    private static final String TOO_LARGE_LAST = "TOO_LARGE if the cover has more than 8 vertices.";
    private static final String NO_SUCH_WORD = "NONE if there is no such word, in which case the output buffer does not change.";
    private static final String NO_ARRAY_SECOND = "-11 if the array does not exist (checked second)";

    private static final Set<String> quoted = new LinkedHashSet<>();
    private static int promise = 0;
    private static String sentence = "";
    private static int wrong = 0;

    private interface Call {
        long on(SoficShift x);
    }

    private interface ArgumentCall {
        long on(SoficShift x, int value);
    }

    public static void main(String[] args) throws IOException {
        fingerprintSeesEveryChange();
        description();
        texts();
        newObject();
        addEdge();
        removeEdge();
        targets();
        edges();
        feed();
        parse();
        random();
        essential();
        isIrreducible();
        period();
        words();
        growth();
        allows();
        writeWord();
        forbidden();
        writeForbidden();
        periodic();
        orbits();
        characteristic();
        cover();
        writeReset();
        memory();
        isMixing();
        writeDifference();
        union();
        intersect();
        reverse();
        relabel();
        forbid();
        writeGraph();
        output();
        undo();
        save();
        restore();
        createArray();
        setElement();
        setNaN();
        compareElements();
        checkCounts();
        compareWithDocument(Path.of("../shared/DOC.md"));
        System.out.println(quoted.size() + " sentences with a test");
        System.out.println(wrong == 0 ? "all answers are as due" : wrong + " answers are not as due");
        if (wrong != 0) {
            System.exit(1);
        }
    }

    // ---- how the cases are told

    private static void says(int ofPromise, String quote) {
        promise = ofPromise;
        sentence = quote;
        quoted.add(promise + "|" + quote);
    }

    private static void fault(String text) {
        wrong++;
        System.out.println("promise " + promise + ", \"" + sentence + "\": " + text);
    }

    private static void due(String what, long got, long want) {
        if (got != want) {
            fault(what + " answered " + got + ", due is " + want);
        }
    }

    private static void dueText(String what, String got, String want) {
        if (!got.equals(want)) {
            fault(what + " gave '" + got + "', due is '" + want + "'");
        }
    }

    /** The call is refused with an answer, and nothing that can be asked of the object has changed. */
    private static void refuses(String what, long want, Supplier<SoficShift> maker, Call call) {
        SoficShift x = maker.get();
        due(what, call.on(x), want);
        dueText(what + ": the state", fingerprint(x), fingerprint(maker.get()));
    }

    private static void refuses(String what, long want, Call call) {
        refuses(what, want, BoundaryTest::lived, call);
    }

    /** The call is refused with an answer, and nothing has changed but that the input buffer is empty. */
    private static void refusesAndEmpties(String what, long want, Supplier<SoficShift> maker, Call call) {
        SoficShift x = maker.get();
        due(what, call.on(x), want);
        SoficShift twin = maker.get();
        twin.allows(0);
        dueText(what + ": the state", fingerprint(x), fingerprint(twin));
    }

    /** An argument's range: the answers at its two ends, and the refusal of what lies outside, near and far. */
    private static void range(int ofPromise, String quote, int low, long atLow, int high, long atHigh, ArgumentCall call, long error) {
        says(ofPromise, quote);
        due("the low end " + low, call.on(lived(), low), atLow);
        due("the high end " + high, call.on(lived(), high), atHigh);
        for (int value : new int[] {low - 1, high + 1, LOWEST, HIGHEST}) {
            refuses("the value " + value, error, x -> call.on(x, value));
        }
    }

    private static SoficShift feedTo(SoficShift x, String text) {
        for (int i = 0; i < text.length(); i++) {
            x.feed(text.charAt(i));
        }
        return x;
    }

    /** A new object with graphs in the slots from 0. */
    private static SoficShift with(String... graphs) {
        SoficShift x = new SoficShift();
        for (int slot = 0; slot < graphs.length; slot++) {
            if (!graphs[slot].isEmpty()) {
                feedTo(x, graphs[slot]).parse(slot);
            }
        }
        return x;
    }

    private static String text(SoficShift x) {
        StringBuilder text = new StringBuilder();
        for (int c = x.output(0); c != NONE; c = x.output(text.length())) {
            text.append((char) c);
        }
        return text.toString();
    }

    private static String graph(SoficShift x, int slot) {
        x.writeGraph(slot);
        return text(x);
    }

    /**
     * An object with something in every part of its state: graphs of many kinds (slot 2 reducible, slot 3 with a cover that is
     * too large, slot 4 with an edge outside its essential part, slot 5 empty), a full history, a saved state that differs
     * from the present one, the input 2b2, the output bab, and arrays of each type, of which array 3 does not exist.
     */
    private static SoficShift lived() {
        SoficShift x = with(GOLDEN, EVEN, PARTED, COVER_OF_9, "7a7;7b3");
        x.addEdge(5, 0, 0, 0);
        x.addEdge(5, 7, 3, 7);
        x.save();
        x.removeEdge(5, 0, 0, 0);
        x.removeEdge(5, 7, 3, 7);
        x.addEdge(0, 0, 0, 0);
        x.writeWord(0, 3, 4);
        for (int array = 0; array < 3; array++) {
            x.createArray(array, array, 3);
            for (int i = 0; i < 3; i++) {
                x.setElement(array, i, (i + 1) * (array == 2 ? 8 : 1));
            }
        }
        x.setNaN(2, 2);
        return feedTo(x, "2b2");
    }

    /** All that the calls can tell of the state; asking for it changes the object. */
    private static String fingerprint(SoficShift x) {
        StringBuilder print = new StringBuilder("output ").append(text(x));
        for (int array = 0; array < 4; array++) {
            print.append("\narray ").append(array).append(": ").append(x.checkCounts(array, 0));
            for (int i = 0; i < 3; i++) {
                print.append(' ').append(x.compareElements(array, i, i)).append(x.compareElements(array, i, (i + 1) % 3));
            }
            print.append(' ').append(x.compareElements(array, 0, 3)).append(x.setNaN(array, 0));
        }
        graphs(x, print.append("\ngraphs"));
        int slot = x.undo();
        for (int i = 0; i < 12 && slot >= 0; i++) {
            print.append("\nundone ").append(slot).append(' ').append(graph(x, slot));
            slot = x.undo();
        }
        print.append("\ninput ").append(x.parse(5)).append(' ').append(graph(x, 5));
        graphs(x, print.append("\nsaved ").append(x.restore()));
        return print.toString();
    }

    private static void graphs(SoficShift x, StringBuilder print) {
        for (int slot = 0; slot < 6; slot++) {
            print.append(' ').append(graph(x, slot)).append(',');
        }
    }

    /** The comparisons of states are worth nothing if a change could hide from them. */
    private static void fingerprintSeesEveryChange() {
        says(0, "A method that returns an error code leaves the state unchanged, unless its description says otherwise.");
        dueText("two objects with the same calls", fingerprint(lived()), fingerprint(lived()));
        Call[] changes = {x -> x.addEdge(0, 0, 0, 0), x -> x.removeEdge(0, 0, 0, 0), x -> x.feed('a'), x -> x.parse(5), x -> x.allows(0),
            x -> x.random(5, 0, 0), x -> x.writeWord(0, 3, 3), x -> x.writeGraph(5), x -> x.undo(), x -> x.save(), x -> x.restore(),
            x -> x.createArray(3, 0, 0), x -> x.createArray(0, 0, 3), x -> x.createArray(0, 1, 3), x -> x.setElement(0, 0, 2),
            x -> x.setElement(1, 2, 4), x -> x.setElement(2, 0, 9), x -> x.setElement(2, 2, 24), x -> x.setNaN(2, 1)};
        for (int i = 0; i < changes.length; i++) {
            SoficShift x = lived();
            changes[i].on(x);
            due("change " + i + " hides", fingerprint(x).equals(fingerprint(lived())) ? 1 : 0, 0);
        }
    }

    // ---- the description

    private static void description() {
        says(0, "If several error codes apply, the one named first is returned.");
        due("a wrong byte for a full buffer", feedTo(new SoficShift(), "a".repeat(120)).feed(0), BAD);
        due("a wrong target for a reducible graph", with(PARTED).cover(0, 6), BAD);
        due("a wrong slot for a text that is no graph", feedTo(new SoficShift(), "x").parse(6), BAD);
        due("no array, and no index either", new SoficShift().setElement(0, 99, 0), NO_ARRAY);
        due("a negative length of a wrong type", new SoficShift().createArray(0, 3, -1), BAD);

        says(0, "The alphabet has the letters a, b, c and d, with the numbers 0 to 3.");
        SoficShift x = new SoficShift();
        for (int letter = 0; letter < 4; letter++) {
            x.addEdge(0, 0, letter, 0);
        }
        dueText("the four letters", graph(x, 0), ALL_WORDS);
        due("a fifth", x.addEdge(0, 0, 4, 0), BAD);

        says(0, "A word is a finite sequence of letters; it may be empty.");
        due("the empty word of GOLDEN", with(GOLDEN).allows(0), 1);
        due("it is written", with(GOLDEN).writeWord(0, 0, 0), 0);

        says(0, "Words of the same length are ordered lexicographically by their letters, with a lowest.");
        x = with("0d1;0c1;0b1;0a1;1d0;1a0");
        String[] words = {"aa", "ab", "ac", "ad", "ba", "bd", "ca", "cd", "da", "db", "dc", "dd"};
        for (int i = 0; i < words.length; i++) {
            x.writeWord(0, 2, i);
            dueText("word " + i, text(x), words[i]);
        }

        says(0, "There are 6 slots, numbered 0 to 5, each with a graph.");
        x = new SoficShift();
        for (int slot = 0; slot < 6; slot++) {
            due("slot " + slot, x.addEdge(slot, slot, 0, slot), 1);
        }
        for (int slot = 0; slot < 6; slot++) {
            dueText("slot " + slot, graph(x, slot), slot + "a" + slot);
        }
        due("slot 6", x.edges(6), BAD);
        due("slot -1", x.edges(-1), BAD);

        says(0, "A graph has the vertices 0 to 7 and a set of edges.");
        due("eight loops", with("0a0;1a1;2a2;3a3;4a4;5a5;6a6;7a7").essential(0), 255);
        due("vertex 8", x.addEdge(0, 8, 0, 0), BAD);

        says(0, "Two edges are the same if all three agree; an edge is contained at most once.");
        due("each of the three differs once", with("0a0;1a0;0b0;0a1;0a0").edges(0), 4);

        says(0, "Initially no graph has an edge.");
        due("all six", new SoficShift().save(), 0);

        essentialPart();
        coversAndWords();
        changingGraphs();
        constants();
    }

    private static void essentialPart() {
        says(0, "A vertex is essential if there is an infinite path that starts at it and an infinite path, extended backward without "
                + "end, that ends at it.");
        due("no way in", with("0a1;1a1").essential(0), 2);
        due("no way out", with("1a1;1a0").essential(0), 2);
        due("between two cycles", with("0a0;0a1;1a2;2a3;3a3").essential(0), 15);
        due("a long way that ends", with("0a1;1a2;2a3;3a4;4a5;5a6;6a7").essential(0), 0);
        due("a long way into a loop", with("0a1;1a2;2a3;3a4;4a5;5a6;6a7;7a7").essential(0), 128);
        due("a long way out of a loop", with("0a0;0a1;1a2;2a3;3a4;4a5;5a6;6a7").essential(0), 1);

        says(0, "The essential part of a graph consists of its essential vertices and of all edges whose source and target are "
                + "essential.");
        due("the edges to and from others do not count", with("0b1;1a1;1c2").words(0, 1), 1);

        says(0, "A word is allowed if it is the label of a path in the essential part; the empty word is allowed if there is at least "
                + "one essential vertex.");
        SoficShift x = with("0b1;1a1;1c2", "0a1");
        due("a", feedTo(x, "a").allows(0), 1);
        due("b leads in", feedTo(x, "b").allows(0), 0);
        due("c leads out", feedTo(x, "c").allows(0), 0);
        due("the empty word", x.allows(0), 1);
        due("the empty word without an essential vertex", x.allows(1), 0);
        due("the empty word without an edge", x.allows(5), 0);

        says(0, "Two graphs present the same shift if they have the same allowed words.");
        due("they differ outside the essential part", with("0a0;0b1;7c0", "3a3").writeDifference(0, 1), NONE);
        due("none has an allowed word", with("0a1").writeDifference(0, 1), NONE);

        says(0, "A graph is irreducible if it has an essential vertex and there is a path in its essential part from each essential "
                + "vertex to each other essential vertex.");
        due("no essential vertex", with("0a1").isIrreducible(0), 0);
        due("one", with("5a5").isIrreducible(0), 1);
        due("a way back from 7 to 0 alone", with(RING_OF_8).isIrreducible(0), 1);
        due("one way", with("0a0;0a1;1a1").isIrreducible(0), 0);
    }

    private static void coversAndWords() {
        says(0, "A synchronizing word is an allowed word for which all paths in the cover that have it as their label end at the same "
                + "vertex; the empty word is a synchronizing word if the cover has only one vertex.");
        due("one vertex", with("3a4;4a3;3b3").writeReset(0), 1);
        due("one vertex in the cover alone", with("3a4;4a3").writeReset(0), 0);
        due("its memory", with("3a4;4a3").memory(0), 0);

        says(0, "The reset word is the shortest synchronizing word, and the lexicographically lowest of these.");
        SoficShift x = with("0a1;1b2;2a3;3c0", "0b1;1c2;2d0", GOLDEN);
        x.writeReset(0);
        dueText("b before c, and not ab", text(x), "b");
        x.writeReset(1);
        dueText("b before c and d", text(x), "b");
        x.writeReset(2);
        dueText("a before b", text(x), "a");

        says(0, "The vertices of the cover are numbered in breadth-first order: vertex 0 is the vertex at which the paths of the reset "
                + "word end; then, for each numbered vertex in order and each letter in order, the target of its edge with this letter "
                + "gets the next number, if it has none yet.");
        x = with(COVER_OF_8);
        x.cover(0, 1);
        dueText("eight vertices", graph(x, 1),
                "0a0;0b1;1a2;1b3;2a4;2b5;3a6;3b7;4a0;4b1;4c0;5a2;5b3;5c0;6a4;6b5;6c0;7a6;7b7;7c0");

        says(0, "The class handles covers of at most 8 vertices.");
        due("eight", with(COVER_OF_8).cover(0, 0), 8);
        due("nine", with(COVER_OF_9).cover(0, 0), TOO_LARGE);

        says(0, "A word of at least one letter is a minimal forbidden word if it is not allowed, but the word without its first letter "
                + "and the word without its last letter are both allowed.");
        due("no word of one letter without the empty word", with("0a1").forbidden(0, 1), 0);
        due("letters", with("0a0").forbidden(0, 1), 3);
        due("ab is not minimal where b is forbidden", with("0a0").forbidden(0, 2), 0);
        x = with(EVEN);
        x.writeForbidden(0, 3, 0);
        dueText("aba", text(x), "aba");

        says(0, "A word of at least one letter is periodic if all its powers are allowed, that is, the word repeated any number of "
                + "times.");
        due("aaaaaaaa is allowed, but not more", with("0b0;0a1;1a2;2a3;3a4;4a5;5a6;6a7;7b7").periodic(0, 1), 1);
        due("a leads to a loop", with("0b0;0a1;1a2;2a3;3a4;4a5;5a6;6a7;7a7").periodic(0, 1), 2);
        due("ab in a ring of abab", with("0a1;1b2;2a3;3b0").periodic(0, 2), 2);

        says(0, "It is primitive if it is not a power of a shorter word.");
        due("abab is not", with("0a1;1b0").orbits(0, 4), 0);
        due("ab is", with("0a1;1b0").orbits(0, 2), 1);
        due("a is, having one letter", with("0a0").orbits(0, 1), 1);
    }

    private static void changingGraphs() {
        says(0, "Some methods store a graph in a target slot, in place of the graph that was there.");
        SoficShift x = with(GOLDEN, "7d7");
        x.reverse(0, 1);
        dueText("nothing of the old graph is left", graph(x, 1), "0a0;0a1;1b0");

        says(0, "The target may be the same as a source.");
        due("cover", with("3a4;4a3").cover(0, 0), 1);
        x = with("0a1;1b0", "2c2");
        due("union, first", x.union(0, 1, 0), 3);
        dueText("union, first", graph(x, 0), "0a1;1b0;2c2");
        due("union, second", x.union(0, 1, 1), 4);
        dueText("union, second", graph(x, 1), "0a1;1b0;2c2;3c3");
        x = with("0a1;1a0", "0a1;1a2;2a0");
        due("intersect, first", x.intersect(0, 1, 0), 6);
        dueText("intersect, first", graph(x, 0), "0a4;1a5;2a3;3a1;4a2;5a0");
        x = with("0a1;1a0", "0a1;1a2;2a0");
        due("intersect, second", x.intersect(0, 1, 1), 6);
        dueText("intersect, second", graph(x, 1), "0a4;1a5;2a3;3a1;4a2;5a0");
        x = with("0a1;1b2;2c0");
        due("reverse", x.reverse(0, 0), 3);
        dueText("reverse", graph(x, 0), "0c2;1a0;2b1");
        due("relabel", x.relabel(0, 0, 1, 0), 3);
        dueText("relabel", graph(x, 0), "0c2;1b0;2b1");
        x = with("0a0;0b0");
        due("forbid", feedTo(x, "bb").forbid(0, 0), 2);
        dueText("forbid", graph(x, 0), GOLDEN);

        says(0, "The replaced graph is recorded in a history, which keeps the 10 latest replaced graphs with their slots.");
        for (int replaced = 9; replaced <= 13; replaced++) {
            x = new SoficShift();
            for (int i = 0; i < replaced; i++) {
                x.addEdge(i % 6, i / 6, 3, 7);
            }
            int kept = Math.min(replaced, 10);
            for (int i = 1; i <= kept; i++) {
                int slot = (replaced - i) % 6;
                due(replaced + " replaced, undo " + i, x.undo(), slot);
                due(replaced + " replaced, edges after undo " + i, x.edges(slot), (replaced - i) / 6);
            }
            due(replaced + " replaced, one more", x.undo(), NOTHING);
            due(replaced + " replaced, what is left", x.save(), replaced - kept);
        }

        says(0, "The methods that do so are addEdge, removeEdge, parse, random, cover, union, intersect, reverse, relabel and forbid.");
        Call[] changes = {y -> y.addEdge(0, 0, 0, 0), y -> y.removeEdge(0, 0, 0, 0), y -> feedTo(y, "1b1").parse(0), y -> y.random(0, 1, 1),
            y -> y.cover(0, 0), y -> y.union(0, 0, 0), y -> y.intersect(0, 0, 0), y -> y.reverse(0, 0), y -> y.relabel(0, 0, 0, 0),
            y -> feedTo(y, "d").forbid(0, 0)};
        for (int i = 0; i < changes.length; i++) {
            SoficShift y = with(GOLDEN);
            due("change " + i + " is done", changes[i].on(y) >= 0 ? 1 : 0, 1);
            due("change " + i, y.undo(), 0);
            dueText("change " + i, graph(y, 0), GOLDEN);
            due("the parse before change " + i, y.undo(), 0);
            due("nothing before", y.undo(), NOTHING);
        }
        Call[] others = {y -> y.targets(0, 0, 0), y -> y.edges(0), y -> y.feed('a'), y -> y.essential(0), y -> y.isIrreducible(0),
            y -> y.period(0), y -> y.words(0, 9), y -> y.growth(0, 9, 0), y -> y.allows(0), y -> y.writeWord(0, 1, 0), y -> y.forbidden(0, 1),
            y -> y.writeForbidden(0, 1, 0), y -> y.periodic(0, 1), y -> y.orbits(0, 1), y -> y.characteristic(0, 0), y -> y.writeReset(0),
            y -> y.memory(0), y -> y.isMixing(0), y -> y.writeDifference(0, 1), y -> y.writeGraph(0), y -> y.output(0), y -> y.save(),
            y -> y.createArray(0, 0, 1), y -> y.setElement(0, 0, 1), y -> y.setNaN(0, 0), y -> y.compareElements(0, 0, 0),
            y -> y.checkCounts(0, 0)};
        SoficShift z = with(GOLDEN);
        for (Call other : others) {
            other.on(z);
        }
        dueText("none of the others changes a graph", graph(z, 0), GOLDEN);
        due("or the history", z.undo(), 0);
        due("none of the others", z.undo(), NOTHING);
    }

    private static void constants() {
        says(0, "`NONE = -1`: There is no such element or no such result.");
        due("NONE", SoficShift.NONE, NONE);
        says(0, "`BAD_ARGUMENT = -2`: An argument is out of range.");
        due("BAD_ARGUMENT", SoficShift.BAD_ARGUMENT, BAD);
        says(0, "`FULL = -3`: A capacity limit is reached.");
        due("FULL", SoficShift.FULL, FULL);
        says(0, "`REDUCIBLE = -4`: The graph is not irreducible.");
        due("REDUCIBLE", SoficShift.REDUCIBLE, REDUCIBLE);
        says(0, "`TOO_LARGE = -5`: The cover has more than 8 vertices.");
        due("TOO_LARGE", SoficShift.TOO_LARGE, TOO_LARGE);
        says(0, "`NOTHING_SAVED = -6`: There is no saved state, or nothing to undo.");
        due("NOTHING_SAVED", SoficShift.NOTHING_SAVED, NOTHING);
        says(0, "`NO_NUMBER = Long.MIN_VALUE`: The error value of methods that return any long.");
        due("NO_NUMBER", SoficShift.NO_NUMBER, NO_NUMBER);
    }

    private static void texts() {
        says(0, "The input buffer holds at most 120 bytes.");
        SoficShift x = with("0a0");
        for (int i = 1; i <= 120; i++) {
            due("byte " + i, x.feed('a'), i);
        }
        due("byte 121", x.feed('b'), FULL);
        due("byte 121 again", x.feed('a'), FULL);
        due("it did not enter", x.allows(0), 1);
        due("there is room again", x.feed('a'), 1);

        says(0, "A graph is read from it with this grammar, in which braces mean zero or more repetitions: graph = edge { \";\" edge }, "
                + "where an edge is a digit 0 to 7 for the source, a letter a to d, and a digit 0 to 7 for the target.");
        due("no edge at all", new SoficShift().parse(1), -100);
        x = new SoficShift();
        due("one edge", feedTo(x, "0a7").parse(1), 1);
        due("one repetition", feedTo(x, "7d0;0a7").parse(1), 2);
        dueText("the ends of the ranges", graph(x, 1), "0a7;7d0");
        due("29 repetitions", feedTo(x, "0a0;0a1;0a2;0a3;0a4;0a5;0a6;0a7;0b0;0b1;0b2;0b3;0b4;0b5;0b6;0b7;0c0;0c1;0c2;0c3;0c4;0c5;0c6;0c7;"
                + "7d0;7d1;7d2;7d3;7d4;7d5").parse(1), 30);

        says(0, "A word is read from it as a sequence of letters a to d, which may be empty.");
        due("empty", with(ALL_WORDS).allows(0), 1);
        due("all letters", feedTo(with(ALL_WORDS), "abcd").allows(0), 1);
        due("the sign before a", feedTo(with(ALL_WORDS), "`").allows(0), -100);
        due("the sign behind d", feedTo(with(ALL_WORDS), "e").allows(0), -100);

        says(0, "There are no spaces.");
        due("before an edge", feedTo(x, " 0a0").parse(1), -100);
        due("within an edge", feedTo(x, "0 a0").parse(1), -101);
        due("before a semicolon", feedTo(x, "0a0 ;0a0").parse(1), -103);
        due("behind a semicolon", feedTo(x, "0a0; 0a0").parse(1), -104);
        due("at the end of a graph", feedTo(x, "0a0 ").parse(1), -103);
        due("before a word", feedTo(x, " a").allows(0), -100);
        due("within a word", feedTo(x, "a a").allows(0), -101);
        due("at the end of a word", feedTo(x, "a ").allows(0), -101);
        due("in a word to forbid", feedTo(x, "a ").forbid(0, 1), -101);

        says(0, "The error position is the offset, from 0, of the first byte that is not allowed at its place, or the number of bytes in "
                + "the buffer if the text ends too early.");
        String graph = "0a0;7d7;3b4";
        for (int length = 0; length <= graph.length(); length++) {
            int want = length % 4 == 3 ? length / 4 + 1 : -100 - length;
            due("cut to " + length + " bytes", feedTo(x, graph.substring(0, length)).parse(1), want);
        }
        for (int at = 0; at < graph.length(); at++) {
            due("a wrong byte at " + at, feedTo(x, graph.substring(0, at) + "!" + graph.substring(at + 1)).parse(1), -100 - at);
            due("and another behind it", feedTo(x, graph.substring(0, at) + "!!").parse(1), -100 - at);
        }
        x = with("0a0");
        due("120 bytes that end too early", feedTo(x, "0a0;".repeat(30)).parse(1), -220);
        due("119 bytes that do not", feedTo(x, "0a0;".repeat(29) + "0a1").parse(1), 2);
        x = with("0a0");
        due("the last of 120", feedTo(x, "a".repeat(119) + "!").allows(0), -219);

        says(0, "The output buffer holds the latest text that was written.");
        x = with(GOLDEN);
        x.writeGraph(0);
        x.writeWord(0, 3, 4);
        dueText("a shorter text in the place of a longer one", text(x), "bab");
        x.writeWord(0, 4, 0);
        dueText("a longer text in the place of a shorter one", text(x), "aaaa");
        x.writeForbidden(0, 2, 0);
        dueText("a forbidden word", text(x), "bb");
        x.writeReset(0);
        dueText("the reset word", text(x), "a");
        x.writeDifference(0, 1);
        dueText("the empty difference", text(x), "");
    }

    // ---- promises 1 to 8

    private static void newObject() {
        says(1, "Creates a calculator with 6 graphs without edges and empty buffers.");
        SoficShift x = new SoficShift();
        for (int slot = 0; slot < 6; slot++) {
            due("edges of slot " + slot, x.edges(slot), 0);
        }
        due("there is no seventh", x.edges(6), BAD);
        due("the output is empty", x.output(0), NONE);
        due("the input is empty", x.feed('a'), 1);
    }

    private static void addEdge() {
        says(2, "Adds an edge to a graph.");
        SoficShift x = new SoficShift();
        x.addEdge(0, 0, 0, 7);
        x.addEdge(0, 7, 3, 0);
        dueText("the edges at the ends of the ranges", graph(x, 0), "0a7;7d0");

        says(2, "If the graph has this edge already, it stays as it is, but the call counts as a replacement for the history.");
        x = with(GOLDEN);
        due("its number of edges", x.addEdge(0, 0, 1, 1), 3);
        dueText("as it was", graph(x, 0), GOLDEN);
        due("the call is undone", x.undo(), 0);
        dueText("as it was", graph(x, 0), GOLDEN);
        due("then the parse", x.undo(), 0);
        due("that was all", x.undo(), NOTHING);
        for (int i = 0; i < 10; i++) {
            x.addEdge(1, 0, 0, 0);
        }
        for (int i = 0; i < 10; i++) {
            due("ten calls, nine of them with nothing new", x.undo(), 1);
        }
        due("only the first had changed the graph", x.edges(1), 0);

        range(2, SLOT, 0, 4, 5, 1, (y, v) -> y.addEdge(v, 7, 3, 7), BAD);
        range(2, SOURCE, 0, 10, 7, 10, (y, v) -> y.addEdge(3, v, 3, 1), BAD);
        range(2, LETTER, 0, 10, 3, 10, (y, v) -> y.addEdge(3, 6, v, 1), BAD);
        range(2, TARGET_VERTEX, 0, 10, 7, 10, (y, v) -> y.addEdge(3, 6, 3, v), BAD);

        says(2, "Returns the number of edges of the graph");
        x = new SoficShift();
        for (int i = 0; i < 256; i++) {
            due("edge " + i, x.addEdge(0, i / 32, i / 8 % 4, i % 8), i + 1);
        }
        due("again, with all edges there", x.addEdge(0, 7, 3, 7), 256);

        says(2, BAD_ANY);
        refuses("all wrong", BAD, y -> y.addEdge(-1, 8, -1, 8));
        refuses("all wrong", BAD, y -> y.addEdge(6, -1, 4, -1));
    }

    private static void removeEdge() {
        says(3, "Removes an edge from a graph.");
        SoficShift x = with("0a7;7d0;0a6;0b7;1a7");
        x.removeEdge(0, 0, 0, 7);
        dueText("this one alone", graph(x, 0), "0a6;0b7;1a7;7d0");
        x.removeEdge(0, 7, 3, 0);
        dueText("and the last", graph(x, 0), "0a6;0b7;1a7");

        range(3, SLOT, 0, 2, 5, NONE, (y, v) -> y.removeEdge(v, 0, 0, 0), BAD);
        range(3, SOURCE, 0, NONE, 7, 1, (y, v) -> y.removeEdge(4, v, 0, 7), BAD);
        range(3, LETTER, 0, 1, 3, NONE, (y, v) -> y.removeEdge(4, 7, v, 7), BAD);
        range(3, TARGET_VERTEX, 0, NONE, 7, 1, (y, v) -> y.removeEdge(4, 7, 0, v), BAD);

        says(3, "Returns the number of edges that remain");
        x = with(GOLDEN);
        due("of three", x.removeEdge(0, 0, 0, 0), 2);
        due("of two", x.removeEdge(0, 0, 1, 1), 1);
        due("of one", x.removeEdge(0, 1, 0, 0), 0);
        x = new SoficShift();
        for (int i = 0; i < 256; i++) {
            x.addEdge(0, i / 32, i / 8 % 4, i % 8);
        }
        due("of all", x.removeEdge(0, 7, 3, 7), 255);

        says(3, BAD_ANY_FIRST);
        refuses("in a graph without edges", BAD, y -> y.removeEdge(5, 8, 0, 0));
        refuses("all wrong", BAD, y -> y.removeEdge(6, -1, 4, 8));

        says(3, "NONE if the graph does not have this edge.");
        refuses("no edge at all", NONE, y -> y.removeEdge(5, 0, 0, 0));
        refuses("another source", NONE, y -> y.removeEdge(0, 2, 1, 1));
        refuses("another letter", NONE, y -> y.removeEdge(0, 0, 2, 1));
        refuses("another target", NONE, y -> y.removeEdge(0, 0, 1, 2));
        refuses("in another slot", NONE, y -> y.removeEdge(2, 0, 1, 1));
        x = with(GOLDEN);
        x.removeEdge(0, 0, 1, 1);
        due("removed already", x.removeEdge(0, 0, 1, 1), NONE);
    }

    private static void targets() {
        says(4, "Returns the targets of the edges with a given source and letter.");
        SoficShift x = with("0a1;0b2;1a3;0a4");
        due("of this source and letter alone", x.targets(0, 0, 0), 2 + 16);

        range(4, SLOT, 0, 1, 5, 0, (y, v) -> y.targets(v, 0, 0), BAD);
        range(4, SOURCE, 0, 0, 7, 128, (y, v) -> y.targets(4, v, 0), BAD);
        range(4, LETTER, 0, 1, 3, 0, (y, v) -> y.targets(3, 0, v), BAD);

        says(4, "Returns the set of targets as a bit mask in which bit v stands for vertex v");
        x = new SoficShift();
        due("no target", x.targets(5, 7, 3), 0);
        for (int v = 0; v < 8; v++) {
            x.addEdge(5, 7, 3, v);
            due("targets 0 to " + v, x.targets(5, 7, 3), (2 << v) - 1);
        }

        says(4, BAD_ANY);
        refuses("all wrong", BAD, y -> y.targets(6, 8, 4));
        refuses("all wrong", BAD, y -> y.targets(-1, -1, -1));
    }

    private static void edges() {
        says(5, "Returns the number of edges of a graph.");
        due("golden", with(GOLDEN).edges(0), 3);

        range(5, SLOT, 0, 3, 5, 0, SoficShift::edges, BAD);

        says(5, "Returns the number of edges, also of those outside the essential part");
        due("one of two outside", with("7a7;7b3").edges(0), 2);
        due("all outside", with("0a1;2b3").edges(0), 2);
        SoficShift x = new SoficShift();
        for (int i = 0; i < 256; i++) {
            x.addEdge(5, i / 32, i / 8 % 4, i % 8);
        }
        due("the most", x.edges(5), 256);

        says(5, BAD_SLOT);
        refuses("slot 6", BAD, y -> y.edges(6));
        refuses("slot -1", BAD, y -> y.edges(-1));
    }

    private static void feed() {
        says(6, "Appends a byte to the input buffer.");
        SoficShift x = with("0a0;0b1;1c0");
        due("behind the others", feedTo(x, "abc").allows(0), 1);

        range(6, "`letter`: the byte, 1 to 127", 1, 4, 127, 4, SoficShift::feed, BAD);
        refuses("a byte by its low bits", BAD, y -> y.feed(256 + 'a'));
        refuses("a byte with its sign", BAD, y -> y.feed('a' - 256));

        says(6, "Returns the number of bytes in the buffer");
        x = new SoficShift();
        for (int i = 1; i <= 120; i++) {
            due("byte " + i, x.feed(i), i);
        }

        says(6, "BAD_ARGUMENT if the byte is out of range (checked first)");
        due("0 for a full buffer", x.feed(0), BAD);
        due("128 for a full buffer", x.feed(128), BAD);

        says(6, "FULL if the buffer already holds 120 bytes.");
        Supplier<SoficShift> full = () -> feedTo(lived(), "a".repeat(117));
        due("the last that fits", feedTo(lived(), "a".repeat(116)).feed('a'), 120);
        refuses("one more", FULL, full, y -> y.feed('a'));
        refuses("the lowest byte", FULL, full, y -> y.feed(1));
        refuses("the highest byte", FULL, full, y -> y.feed(127));
    }

    private static void parse() {
        says(7, "Parses the input buffer as a graph and stores it.");
        SoficShift x = with("7d7");
        due("three edges", feedTo(x, GOLDEN).parse(0), 3);
        dueText("nothing of the old graph is left", graph(x, 0), GOLDEN);

        says(7, "The buffer is empty afterwards, even if the text contains an error; it is kept if the slot is out of range.");
        due("stored", feedTo(x, "0a0").parse(0), 1);
        due("then empty", x.feed('0'), 1);
        due("an error", x.parse(0), -101);
        due("then empty", x.feed('!'), 1);
        due("another error", x.parse(0), -100);
        due("then empty", x.parse(0), -100);
        feedTo(x, "4c4");
        for (int slot : new int[] {-1, 6, LOWEST, HIGHEST}) {
            due("slot " + slot, x.parse(slot), BAD);
        }
        due("kept", x.parse(1), 1);
        dueText("kept", graph(x, 1), "4c4");
        feedTo(x, "4c");
        due("a text with an error, and a wrong slot", x.parse(6), BAD);
        due("kept", x.feed('3'), 3);
        due("kept", x.parse(1), 1);

        says(7, "An edge may occur more than once in the text.");
        due("twice", feedTo(x, "0a0;0a0").parse(0), 1);
        due("thirty times", feedTo(x, "0a0;".repeat(29) + "0a0").parse(0), 1);
        dueText("it is there once", graph(x, 0), "0a0");

        range(7, SLOT_AS_TARGET, 0, 1, 5, 1, SoficShift::parse, BAD);

        says(7, "Returns the number of different edges");
        due("source, letter and target differ", feedTo(x, "0a0;1a0;0b0;0a1;0a0;0a1").parse(0), 4);

        says(7, BAD_SLOT_FIRST);
        Supplier<SoficShift> spoilt = () -> feedTo(lived(), "!");
        refuses("a wrong slot and a wrong text", BAD, spoilt, y -> y.parse(6));
        refuses("a wrong slot and no text", BAD, () -> with(GOLDEN), y -> y.parse(-1));

        says(7, "-100 minus the error position if the text is not a graph.");
        refusesAndEmpties("a wrong text", -103, spoilt, y -> y.parse(0));
        refusesAndEmpties("a text that ends too early", -104, () -> feedTo(lived(), ";"), y -> y.parse(5));
        refusesAndEmpties("no text", -100, () -> with(GOLDEN), y -> y.parse(0));
        String[] bad = {"/a0", "8a0", ":a0", "aa0", "0`0", "0e0", "0A0", "000", "0a/", "0a8", "0aa", "0a0:", "0a0<", "0a0,", "0a0a", "0a00",
            "0a0;/", "0a0;8", "0a0;;", "0a0;0`", "0a0;0e", "0a0;0a8", "0a0;0a0;", (char) 1 + "a0", "0" + (char) 127 + "0"};
        int[] position = {0, 0, 0, 0, 1, 1, 1, 1, 2, 2, 2, 3, 3, 3, 3, 3, 4, 4, 4, 5, 5, 6, 8, 0, 1};
        for (int i = 0; i < bad.length; i++) {
            due("'" + bad[i] + "'", feedTo(with(GOLDEN), bad[i]).parse(0), -100 - position[i]);
        }
    }

    /** The draws of the document, in wide arithmetic: the number of different edges, and their text in ascending order. */
    private static String drawn(int seed, int n) {
        java.util.TreeSet<String> edges = new java.util.TreeSet<>();
        long z = seed & 0xffffffffL;
        for (int i = 0; i < n; i++) {
            long[] upper = new long[3];
            for (int k = 0; k < 3; k++) {
                z = (z * 1103515245L + 12345L) % (1L << 32);
                upper[k] = z / 65536;
            }
            edges.add("" + upper[0] % 8 + (char) ('a' + upper[1] % 4) + upper[2] % 8);
        }
        return String.join(";", edges);
    }

    private static void random() {
        says(8, "Stores a pseudorandom graph.");
        SoficShift x = with(GOLDEN);
        due("one edge", x.random(0, 0, 1), 1);
        dueText("nothing of the old graph is left", graph(x, 0), "0a4");
        due("it is in the history", x.undo(), 0);
        dueText("undone", graph(x, 0), GOLDEN);

        says(8, "A state z starts with the seed.");
        x.random(0, 1, 24);
        x.random(1, 1, 24);
        dueText("the same graph again", graph(x, 1), graph(x, 0));
        dueText("seed 1", graph(x, 1), drawn(1, 24));

        says(8, "For each of three numbers of each edge, z is replaced by z * 1103515245 + 12345 in 32-bit arithmetic that wraps, and z "
                + ">>> 16 is used: modulo 8 for the source, then modulo 4 for the letter, then modulo 8 for the target.");
        for (int seed = -60; seed < 60; seed++) {
            SoficShift y = new SoficShift();
            y.random(0, seed * 35791394, seed & 15);
            dueText("seed " + seed * 35791394, graph(y, 0), drawn(seed * 35791394, seed & 15));
        }

        says(8, "An edge that occurs again is contained only once.");
        due("20 draws of 19 edges", new SoficShift().random(0, 5, 20), 19);

        range(8, SLOT_AS_TARGET, 0, 1, 5, 1, (y, v) -> y.random(v, 0, 1), BAD);

        says(8, "`seed`: the seed, any int");
        for (int seed : new int[] {LOWEST, LOWEST + 1, -1, 0, 1, HIGHEST}) {
            SoficShift y = new SoficShift();
            due("seed " + seed, y.random(5, seed, 24) > 0 ? 1 : 0, 1);
            dueText("seed " + seed, graph(y, 5), drawn(seed, 24));
        }

        range(8, "`n`: the number of edges that are drawn, 0 to 24", 0, 0, 24, 22, (y, v) -> y.random(1, 9, v), BAD);
        x = with(GOLDEN);
        due("no edge drawn", x.random(0, 7, 0), 0);
        due("that is stored too", x.edges(0), 0);
        due("and recorded", x.undo(), 0);

        says(8, "Returns the number of different edges");
        for (int n = 0; n <= 24; n++) {
            String edges = drawn(12, n);
            due(n + " drawn", new SoficShift().random(0, 12, n), (edges.length() + 1) / 4);
        }

        says(8, "BAD_ARGUMENT if slot or n is out of range.");
        refuses("both", BAD, y -> y.random(6, 0, 25));
        refuses("both", BAD, y -> y.random(-1, 0, -1));
    }

    // ---- promises 9 to 13

    private static void essential() {
        says(9, "Returns the essential vertices of a graph.");
        due("a loop with a way in and a way out", with("3a4;4b4;4c5").essential(0), 16);

        range(9, SLOT, 0, 3, 5, 0, SoficShift::essential, BAD);

        says(9, "Returns the set as a bit mask in which bit v stands for vertex v");
        due("no bit without edges", with().essential(5), 0);
        due("no bit without a cycle", with("0a1").essential(0), 0);
        for (int v = 0; v < 8; v++) {
            due("a loop at " + v, with(v + "d" + v).essential(0), 1 << v);
        }
        due("all bits", with(RING_OF_8).essential(0), 255);

        says(9, BAD_SLOT);
        refuses("slot 6", BAD, y -> y.essential(6));
        refuses("slot -1", BAD, y -> y.essential(-1));
    }

    private static void isIrreducible() {
        says(10, "Returns whether a graph is irreducible.");
        due("two loops", with(PARTED).isIrreducible(0), 0);
        due("two loops, joined by a way and a way back", with("0a0;1b1;0c1;1c0").isIrreducible(0), 1);

        range(10, SLOT, 0, 1, 5, 0, SoficShift::isIrreducible, BAD);

        says(10, "Returns 1 if it is irreducible, otherwise 0");
        due("a ring of all vertices", with(RING_OF_8).isIrreducible(0), 1);
        due("one edge of it fails", with(RING_OF_8.replace("7a0", "7a1")).isIrreducible(0), 1);
        due("the way in is not essential", with(RING_OF_8.replace("7a0", "7a1")).essential(0), 254);
        due("a loop before the ring", with(RING_OF_8.replace("7a0", "7a1") + ";0a0").isIrreducible(0), 0);
        due("no edge", with().isIrreducible(0), 0);
        due("edges, but no essential vertex", with("0a1").isIrreducible(0), 0);
        due("one vertex", with("7d7").isIrreducible(0), 1);

        says(10, BAD_SLOT);
        refuses("slot 6", BAD, y -> y.isIrreducible(6));
        refuses("slot -1", BAD, y -> y.isIrreducible(-1));
    }

    private static void period() {
        says(11, "Returns the period of the essential part of a graph: the greatest common divisor of the lengths of its cycles, where a "
                + "cycle is a path of at least one edge that ends at the vertex at which it starts.");
        due("the shortest cycle, one edge", with("0a0").period(0), 1);
        due("the longest one without a repetition", with(RING_OF_8).period(0), 8);
        due("8 and 6", with(RING_OF_8 + ";5a0").period(0), 2);
        due("8 and 5", with(RING_OF_8 + ";4a0").period(0), 1);
        due("two parts, 4 and 4", with("0a1;1a2;2a3;3a0;4a5;5a6;6a7;7a4").period(0), 4);
        due("two parts, 2 and 6", with("0a1;1a0;2a3;3a4;4a5;5a6;6a7;7a2").period(0), 2);
        due("two parts, 3 and 5", with("0a1;1a2;2a0;3a4;4a5;5a6;6a7;7a3").period(0), 1);

        range(11, SLOT, 0, 1, 5, 0, SoficShift::period, BAD);

        says(11, "Returns the period");
        for (int length = 1; length <= 8; length++) {
            StringBuilder ring = new StringBuilder();
            for (int v = 0; v < length; v++) {
                ring.append(v == 0 ? "" : ";").append(v).append('a').append((v + 1) % length);
            }
            due("a ring of " + length, with(ring.toString()).period(0), length);
        }

        says(11, "0 if there is no essential vertex");
        due("no edge", with().period(0), 0);
        due("edges without a cycle", with("0a1;1a2;2a3;3a4;4a5;5a6;6a7").period(0), 0);

        says(11, BAD_SLOT);
        refuses("slot 6", BAD, y -> y.period(6));
        refuses("slot -1", BAD, y -> y.period(-1));
    }

    private static void words() {
        says(12, "Returns the number of allowed words of a length.");
        due("two paths with the same label are one word", with("0a0;0a1;1a0;1a1").words(0, 7), 1);

        range(12, SLOT, 0, 8, 5, 0, (y, v) -> y.words(v, 4), BAD);
        range(12, "`n`: the length, 0 to 30", 0, 1, 30, 2178309, (y, v) -> y.words(0, v), BAD);

        says(12, "Returns the number of words");
        SoficShift x = with(ALL_WORDS, "0a1");
        for (int n = 0; n <= 30; n++) {
            due("all words of " + n, x.words(0, n), 1L << 2 * n);
            due("no essential vertex, " + n, x.words(1, n), 0);
            due("no edge, " + n, x.words(5, n), 0);
        }

        x = with(ALL_SETS);
        due("the first length at which a word is missing, but one", x.words(0, 14), 4782969);
        due("the first length at which a word is missing", x.words(0, 15), 14348906);
        due("the longest length, with every set of vertices", x.words(0, 30), wordsOfAllSets(30));

        says(12, BAD_ANY);
        refuses("both", BAD, y -> y.words(6, 31));
        refuses("both", BAD, y -> y.words(-1, -1));
    }

    /** Counts the words of ALL_SETS for each set of vertices at which they end. */
    private static long wordsOfAllSets(int n) {
        long[] counts = new long[256];
        counts[255] = 1;
        for (int i = 0; i < n; i++) {
            long[] longer = new long[256];
            for (int set = 1; set < 256; set++) {
                longer[set << 1 & 255 | set >> 7] += counts[set];
                longer[set & 252 | set << 1 & 2 | set >> 1 & 1] += counts[set];
                longer[set & 127] += counts[set];
            }
            counts = longer;
        }
        long total = 0;
        for (int set = 1; set < 256; set++) {
            total += counts[set];
        }
        return total;
    }

    private static void growth() {
        says(13, "Returns the quotient of the numbers of allowed words of lengths n + 1 and n, as a fraction in lowest terms.");
        // Four letters, then ac, ad, bc, bd, ca, cb, da and db.
        SoficShift x = with("0a1;0b1;1c0;1d0");
        due("8 over 4 is 2", x.growth(0, 1, 0), 2);
        due("over 1", x.growth(0, 1, 1), 1);
        due("16 over 8 is 2", x.growth(0, 2, 0), 2);
        due("over 1", x.growth(0, 2, 1), 1);
        due("the largest numbers, 2 to the 60 over 2 to the 58", with(ALL_WORDS).growth(0, 29, 0), 4);
        due("over 1", with(ALL_WORDS).growth(0, 29, 1), 1);
        // EVEN: 4 words of two letters, 7 of three, 12 of four, 20 of five, 33 of six
        due("20 over 12 is 5 over 3", with(EVEN).growth(0, 4, 0), 5);
        due("20 over 12 is 5 over 3", with(EVEN).growth(0, 4, 1), 3);

        says(13, "It is 0 over 1 if there is no allowed word of length n.");
        for (int n : new int[] {0, 1, 29}) {
            due("no edge, numerator for " + n, with().growth(0, n, 0), 0);
            due("no edge, denominator for " + n, with().growth(0, n, 1), 1);
            due("no essential vertex, numerator for " + n, with("0a1").growth(0, n, 0), 0);
            due("no essential vertex, denominator for " + n, with("0a1").growth(0, n, 1), 1);
        }

        range(13, SLOT, 0, 3, 5, 0, (y, v) -> y.growth(v, 1, 0), BAD);
        range(13, "`n`: the length, 0 to 29", 0, 2, 29, 2178309, (y, v) -> y.growth(0, v, 0), BAD);
        range(13, "`part`: 0 for the numerator, 1 for the denominator", 0, 3, 1, 2, (y, v) -> y.growth(0, 1, v), BAD);

        says(13, "Returns the part");
        due("2 over 1", with(GOLDEN).growth(0, 0, 0), 2);
        due("2 over 1", with(GOLDEN).growth(0, 0, 1), 1);
        due("1 over 1", with("0a0").growth(0, 29, 0), 1);
        due("the last denominator", with(GOLDEN).growth(0, 29, 1), 1346269);

        says(13, BAD_ANY);
        refuses("all", BAD, y -> y.growth(6, 30, 2));
        refuses("all", BAD, y -> y.growth(-1, -1, -1));
        refuses("n, for a graph without words", BAD, y -> y.growth(5, 30, 1));
    }

    // ---- promises 14 to 20

    private static void allows() {
        says(14, "Returns whether the word in the input buffer is allowed.");
        due("aba in the even shift", feedTo(with(EVEN), "aba").allows(0), 0);
        due("abba in the even shift", feedTo(with(EVEN), "abba").allows(0), 1);

        says(14, "The buffer is empty afterwards, even if its content is not a word; it is kept if the slot is out of range.");
        SoficShift x = with(GOLDEN);
        due("a word", feedTo(x, "bb").allows(0), 0);
        due("then empty", x.allows(0), 1);
        due("not a word", feedTo(x, "b!").allows(0), -101);
        due("then empty", x.feed('b'), 1);
        for (int slot : new int[] {-1, 6, LOWEST, HIGHEST}) {
            due("slot " + slot, x.allows(slot), BAD);
        }
        due("kept", x.feed('b'), 2);
        due("kept", x.allows(0), 0);

        says(14, SLOT);
        SoficShift y = with("0a0", "", "", "", "", "0b0");
        due("the low end", feedTo(y, "a").allows(0), 1);
        due("the high end", feedTo(y, "b").allows(5), 1);
        for (int slot : new int[] {-1, 6, LOWEST, HIGHEST}) {
            refuses("slot " + slot, BAD, z -> z.allows(slot));
        }

        says(14, "Returns 1 if the word is allowed, otherwise 0");
        due("the empty word", with(GOLDEN).allows(0), 1);
        due("the empty word without a vertex", with(GOLDEN).allows(5), 0);
        due("one letter", feedTo(with(GOLDEN), "b").allows(0), 1);
        due("a letter without an edge", feedTo(with(GOLDEN), "d").allows(0), 0);
        due("120 letters", feedTo(with(GOLDEN), "ab".repeat(60)).allows(0), 1);
        due("120 letters, the last is wrong", feedTo(with(GOLDEN), "a".repeat(118) + "bb").allows(0), 0);

        says(14, BAD_SLOT_FIRST);
        refuses("not a word, and a wrong slot", BAD, () -> feedTo(lived(), "!"), z -> z.allows(6));
        refuses("no letter, and a wrong slot", BAD, () -> with(GOLDEN), z -> z.allows(-1));

        says(14, "-100 minus the error position if the content is not a word.");
        refusesAndEmpties("a digit", -100, BoundaryTest::lived, z -> z.allows(0));
        refusesAndEmpties("also for a graph without words", -100, BoundaryTest::lived, z -> z.allows(5));
        String[] bad = {"`", "e", "A", "0", "" + (char) 1, "" + (char) 127, "a;", "abcde", "bbx", "x!", "a".repeat(119) + "e"};
        int[] position = {0, 0, 0, 0, 0, 0, 1, 4, 2, 0, 119};
        for (int i = 0; i < bad.length; i++) {
            due("'" + bad[i] + "'", feedTo(with(GOLDEN), bad[i]).allows(0), -100 - position[i]);
        }
    }

    private static void writeWord() {
        says(15, "Writes an allowed word of a given length to the output buffer.");
        SoficShift x = with(GOLDEN, ALL_WORDS);
        x.writeWord(0, 0, 0);
        dueText("the empty word", text(x), "");
        x.writeWord(1, 30, (1L << 60) - 1);
        dueText("the last of the longest", text(x), "d".repeat(30));

        says(15, "The allowed words of this length are numbered from 0 in lexicographic order.");
        String[] words = {"aaaa", "aaab", "aaba", "abaa", "abab", "baaa", "baab", "baba"};
        for (int i = 0; i < words.length; i++) {
            x.writeWord(0, 4, i);
            dueText("word " + i, text(x), words[i]);
        }

        range(15, SLOT, 0, 0, 5, NONE, (y, v) -> y.writeWord(v, 0, 0), BAD);
        range(15, "`n`: the length, 0 to 30", 0, 0, 30, 30, (y, v) -> y.writeWord(0, v, 0), BAD);

        says(15, "`i`: the number of the word");
        due("the first", x.writeWord(0, 30, 0), 30);
        dueText("the first", text(x), "a".repeat(30));
        due("the last", x.writeWord(0, 30, 2178308), 30);
        dueText("the last", text(x), "ba".repeat(15));

        says(15, "Returns n");
        for (int n = 0; n <= 30; n++) {
            due("length " + n, x.writeWord(1, n, 0), n);
        }

        says(15, BAD_SLOT_OR_N_FIRST);
        refuses("n, and no such word", BAD, y -> y.writeWord(0, 31, -1));
        refuses("slot, and no such word", BAD, y -> y.writeWord(6, 0, Long.MAX_VALUE));
        refuses("n, for a graph without words", BAD, y -> y.writeWord(5, -1, 0));

        says(15, NO_SUCH_WORD);
        for (long i : new long[] {-1, 5, 1L << 32, -(1L << 32), Long.MIN_VALUE, Long.MAX_VALUE}) {
            refuses("word " + i, NONE, y -> y.writeWord(0, 3, i));
        }
        refuses("a second empty word", NONE, y -> y.writeWord(0, 0, 1));
        refuses("the empty word without a vertex", NONE, y -> y.writeWord(5, 0, 0));
        refuses("behind the last of the longest", NONE, y -> y.writeWord(0, 30, 2178309));
        due("behind the last of all", x.writeWord(1, 30, 1L << 60), NONE);
    }

    // The only minimal forbidden word of letters a and b has six letters.
    private static final String WITHOUT_AAAAAB = "0a1;0b0;1a2;1b0;2a3;2b0;3a4;3b0;4a5;4b0;5a5";

    private static void forbidden() {
        says(16, "Returns the number of minimal forbidden words of a length.");
        due("bb", with(GOLDEN).forbidden(0, 2), 1);
        due("bba and abb are not minimal", with(GOLDEN).forbidden(0, 3), 0);

        range(16, SLOT, 0, 2, 5, 0, (y, v) -> y.forbidden(v, 1), BAD);
        range(16, "`n`: the length, 1 to 6", 1, 2, 6, 0, (y, v) -> y.forbidden(1, v), BAD);
        due("the longest length has a word", with(WITHOUT_AAAAAB).forbidden(0, 6), 1);

        says(16, "Returns the number of words");
        due("none at all", with(ALL_WORDS).forbidden(0, 1), 0);
        due("three letters", with("0b0").forbidden(0, 1), 3);
        due("no letter without the empty word", with("0a1").forbidden(0, 1), 0);
        due("all squares of four letters", with("0a1;0a2;0a3;1b0;1b2;1b3;2c0;2c1;2c3;3d0;3d1;3d2").forbidden(0, 2), 4);

        says(16, BAD_ANY);
        refuses("both", BAD, y -> y.forbidden(6, 7));
        refuses("both", BAD, y -> y.forbidden(-1, 0));
    }

    private static void writeForbidden() {
        says(17, "Writes a minimal forbidden word of a given length to the output buffer.");
        SoficShift x = with(WITHOUT_AAAAAB, "0a1;0a2;0a3;1b0;1b2;1b3;2c0;2c1;2c3;3d0;3d1;3d2", "0b0;0c0");
        due("the longest", x.writeForbidden(0, 6, 0), 6);
        dueText("the longest", text(x), "aaaaab");
        due("the shortest", x.writeForbidden(0, 1, 0), 1);
        dueText("the shortest", text(x), "c");

        says(17, "These words are numbered from 0 in lexicographic order.");
        String[] words = {"aa", "bb", "cc", "dd"};
        for (int i = 0; i < words.length; i++) {
            x.writeForbidden(1, 2, i);
            dueText("word " + i, text(x), words[i]);
        }

        SoficShift z = with("0a0;0b0");
        feedTo(z, "bba").forbid(0, 0);
        feedTo(z, "aab").forbid(0, 0);
        due("two of three letters", z.forbidden(0, 3), 2);
        z.writeForbidden(0, 3, 0);
        dueText("the first of three letters", text(z), "aab");
        z.writeForbidden(0, 3, 1);
        dueText("the second of three letters", text(z), "bba");

        z = with("0a0;0b0;0c0");
        feedTo(z, "bb").forbid(0, 0);
        feedTo(z, "abc").forbid(0, 0);
        due("abb is lower, but not minimal", z.writeForbidden(0, 3, 0), 3);
        dueText("abb is lower, but not minimal", text(z), "abc");

        range(17, SLOT, 0, 1, 5, NONE, (y, v) -> y.writeForbidden(v, 1, 0), BAD);
        range(17, "`n`: the length, 1 to 6", 1, 1, 6, NONE, (y, v) -> y.writeForbidden(0, v, 0), BAD);

        says(17, "`i`: the number of the word");
        due("the first", x.writeForbidden(2, 1, 0), 1);
        dueText("the first", text(x), "a");
        due("the last", x.writeForbidden(2, 1, 1), 1);
        dueText("the last", text(x), "d");

        says(17, "Returns n");
        x = with(EVEN, "0a0;0b0;0c1;1d1");
        due("1", x.writeForbidden(0, 1, 0), 1);
        due("2", x.writeForbidden(1, 2, 0), 2);
        due("3", x.writeForbidden(0, 3, 0), 3);
        due("5", x.writeForbidden(0, 5, 0), 5);

        says(17, BAD_SLOT_OR_N_FIRST);
        refuses("n, and no such word", BAD, y -> y.writeForbidden(0, 7, -1));
        refuses("n, and no such word", BAD, y -> y.writeForbidden(0, 0, HIGHEST));
        refuses("slot, and no such word", BAD, y -> y.writeForbidden(6, 1, -1));

        says(17, NO_SUCH_WORD);
        for (int i : new int[] {-1, 1, LOWEST, HIGHEST}) {
            refuses("word " + i, NONE, y -> y.writeForbidden(0, 2, i));
        }
        refuses("no word of this length", NONE, y -> y.writeForbidden(0, 3, 0));
        refuses("no vertex", NONE, y -> y.writeForbidden(5, 1, 0));
    }

    private static void periodic() {
        says(18, "Returns the number of periodic words of a length.");
        due("aa, ab and ba", with(GOLDEN).periodic(0, 2), 3);

        range(18, SLOT, 0, 4, 5, 0, (y, v) -> y.periodic(v, 3), BAD);
        range(18, "`n`: the length, 1 to 7", 1, 1, 7, 29, (y, v) -> y.periodic(0, v), BAD);

        says(18, "Returns the number of words");
        for (int n = 1; n <= 7; n++) {
            due("all words of " + n, with(ALL_WORDS).periodic(0, n), 1 << 2 * n);
            due("powers of one letter", with("0a1;1a2;2a0").periodic(0, n), 1);
            due("rotations of ab", with("0a1;1b0").periodic(0, n), n % 2 == 0 ? 2 : 0);
            due("no essential vertex", with("0a1").periodic(0, n), 0);
        }

        says(18, BAD_ANY);
        refuses("both", BAD, y -> y.periodic(6, 8));
        refuses("both", BAD, y -> y.periodic(-1, 0));
    }

    private static void orbits() {
        says(19, "Returns the number of periodic words of a length that are primitive, divided by the length, which is the number of orbits "
                + "with this least period.");
        due("ab and ba, not aa", with(GOLDEN).orbits(0, 2), 1);
        due("not abab", with("0a1;1b0").orbits(0, 4), 0);

        range(19, SLOT, 0, 1, 5, 0, (y, v) -> y.orbits(v, 3), BAD);
        range(19, "`n`: the length, 1 to 7", 1, 1, 7, 4, (y, v) -> y.orbits(0, v), BAD);

        says(19, "Returns the quotient, which is an integer");
        int[] full = {4, 6, 20, 60, 204, 670, 2340};
        for (int n = 1; n <= 7; n++) {
            due("all words of " + n, with(ALL_WORDS).orbits(0, n), full[n - 1]);
            due("no essential vertex", with("0a1").orbits(0, n), 0);
            due("one letter, in a ring of seven", with("0a1;1a2;2a3;3a4;4a5;5a6;6a0").orbits(0, n), n == 1 ? 1 : 0);
            due("one b in seven", with("0b1;1a2;2a3;3a4;4a5;5a6;6a0").orbits(0, n), n == 7 ? 1 : 0);
        }

        says(19, BAD_ANY);
        refuses("both", BAD, y -> y.orbits(6, 8));
        refuses("both", BAD, y -> y.orbits(-1, 0));
    }

    private static void characteristic() {
        says(20, "Returns a coefficient of the characteristic polynomial of a graph, the determinant of x times the identity matrix minus "
                + "the adjacency matrix.");
        // (x - 1)(x - 2)
        SoficShift x = with("0a0;1a1;1b1");
        due("power 0", x.characteristic(0, 0), 2);
        due("power 1", x.characteristic(0, 1), -3);
        due("power 2", x.characteristic(0, 2), 1);

        says(20, "The adjacency matrix has a row and a column for each essential vertex; its entries are the numbers of edges of the "
                + "essential part from the vertex of the row to that of the column.");
        x = with("7a7;7b7;7c7;7d7;7a6;5a7");
        due("four loops at one vertex", x.characteristic(0, 0), -4);
        due("its power 1", x.characteristic(0, 1), 1);
        due("the others have no power", x.characteristic(0, 2), NO_NUMBER);
        x = new SoficShift();
        for (int i = 0; i < 256; i++) {
            x.addEdge(0, i / 32, i / 8 % 4, i % 8);
        }
        for (int power = 0; power <= 8; power++) {
            due("all edges, power " + power, x.characteristic(0, power), power == 8 ? 1 : power == 7 ? -32 : 0);
        }

        says(20, "Without essential vertices the polynomial is 1.");
        due("no edge", with().characteristic(0, 0), 1);
        due("no edge, power 1", with().characteristic(0, 1), NO_NUMBER);
        due("edges", with("0a1").characteristic(0, 0), 1);
        due("edges, power 1", with("0a1").characteristic(0, 1), NO_NUMBER);

        range(20, SLOT, 0, -1, 5, 1, (y, v) -> y.characteristic(v, 0), NO_NUMBER);
        range(20, "`power`: the power of x, 0 to the number of essential vertices", 0, -1, 2, 1, (y, v) -> y.characteristic(0, v), NO_NUMBER);
        due("eight vertices", with(RING_OF_8).characteristic(0, 8), 1);
        due("a ninth power", with(RING_OF_8).characteristic(0, 9), NO_NUMBER);

        says(20, "Returns the coefficient");
        due("a ring: x to the 8 minus 1", with(RING_OF_8).characteristic(0, 0), -1);
        due("in between", with(RING_OF_8).characteristic(0, 7), 0);
        x = with(RING_OF_8, GOLDEN);
        for (int i = 0; i < 2; i++) {
            due("one call after another", x.characteristic(0, 0), -1);
            due("one call after another", x.characteristic(0, 1), 0);
            due("one call after another", x.characteristic(1, 1), -1);
        }
        due("large ones: (x - 4) to the 8", loops().characteristic(0, 0), 65536);
        due("large ones", loops().characteristic(0, 4), 70 * 256);
        due("large ones", loops().characteristic(0, 3), -56 * 1024);

        says(20, "NO_NUMBER if an argument is out of range.");
        refuses("both", NO_NUMBER, y -> y.characteristic(6, -1));
        refuses("both", NO_NUMBER, y -> y.characteristic(-1, 9));
    }

    /** Four loops at each vertex. */
    private static SoficShift loops() {
        SoficShift x = new SoficShift();
        for (int v = 0; v < 8; v++) {
            for (int letter = 0; letter < 4; letter++) {
                x.addEdge(0, v, letter, v);
            }
        }
        return x;
    }

    // ---- promises 21 to 25

    private static SoficShift unionOf(String first, String second) {
        SoficShift x = with(first, second);
        x.union(0, 1, 0);
        return x;
    }

    private static void cover() {
        says(21, "Stores the cover of a graph in a slot.");
        SoficShift x = with("7a7;7b3;3b7;0c7", "4d4");
        due("two vertices", x.cover(0, 1), 2);
        dueText("nothing of the old graph is left", graph(x, 1), EVEN);
        dueText("the graph stays", graph(x, 0), "0c7;3b7;7a7;7b3");

        x = with(RING_OF_8, COVER_OF_8, GOLDEN, "0a1;0c2;1a0;1c2;2b0", ALL_SETS);
        x.cover(1, 5);
        due("one vertex", x.cover(0, 5), 1);
        dueText("one vertex, after a larger cover", graph(x, 5), "0a0");
        due("two vertices", x.cover(2, 5), 2);
        dueText("two vertices", graph(x, 5), GOLDEN);
        due("0 and 1 are one vertex", x.cover(3, 5), 2);
        dueText("0 and 1 are one vertex", graph(x, 5), "0a0;0c1;1b0");
        // Single vertices, found early by b, are all that lasts; the sets of two, found later, lead back to them by b too.
        feedTo(x, "0a0;0b2;0c2;1a1;1c0;2c1").parse(3);
        due("the sets that last are not found last", x.cover(3, 5), 3);
        dueText("the sets that last are not found last", graph(x, 5), "0c1;1a1;1c2;2a2;2b0;2c0");
        feedTo(x, "0b1;1a2;1b3;2a0;2b0;3a0;3b0").parse(3);
        due("2 and 3 are one vertex", x.cover(3, 5), 3);
        dueText("2 and 3 are one vertex", graph(x, 5), "0b1;1a2;1b2;2a0;2b0");
        // The reset word is abba, which ends at 1; the vertices get their numbers in the order 1, 4, 2, 3, 0.
        feedTo(x, "0b4;1a4;1b2;2a1;2b3;3b0;4a2;4b1").parse(3);
        due("five vertices", x.cover(3, 5), 5);
        dueText("five vertices", graph(x, 5), "0a1;0b2;1a2;1b0;2a0;2b3;3b4;4b1");
        due("with every set of vertices", x.cover(4, 5), 8);
        // The reset word ends at 6, which becomes 0; then 7 becomes 1, and so on round the ring.
        dueText("with every set of vertices", graph(x, 5),
                "0a1;0b0;0c0;1a2;1b1;2a3;2b3;2c2;3a4;3b2;3c3;4a5;4b4;4c4;5a6;5b5;5c5;6a7;6b6;6c6;7a0;7b7;7c7");

        range(21, SLOT_OF_GRAPH, 0, 2, 5, REDUCIBLE, (y, v) -> y.cover(v, 1), BAD);
        range(21, TARGET_SLOT, 0, 2, 5, 2, (y, v) -> y.cover(1, v), BAD);

        says(21, "Returns the number of vertices of the cover");
        due("one", with(ALL_WORDS).cover(0, 1), 1);
        due("eight", with(COVER_OF_8).cover(0, 1), 8);
        due("eight of eight", with(RING_OF_8 + ";0b1").cover(0, 1), 8);
        due("one of eight", with(RING_OF_8).cover(0, 1), 1);

        says(21, BAD_ANY_FIRST);
        refuses("a wrong target for a reducible graph", BAD, y -> y.cover(2, 6));
        refuses("a wrong target for a cover that is too large", BAD, y -> y.cover(3, -1));
        refuses("both", BAD, y -> y.cover(6, 6));

        says(21, REDUCIBLE_SECOND);
        refuses("two parts", REDUCIBLE, y -> y.cover(2, 4));
        refuses("no edge", REDUCIBLE, y -> y.cover(5, 4));
        refuses("no essential vertex", REDUCIBLE, () -> with("0a1"), y -> y.cover(0, 1));
        refuses("a part with too many vertices", REDUCIBLE, () -> unionOf(COVER_OF_9, "0d0"), y -> y.cover(0, 4));

        says(21, TOO_LARGE_LAST);
        refuses("nine", TOO_LARGE, y -> y.cover(3, 4));
        refuses("nine, to its own slot", TOO_LARGE, y -> y.cover(3, 3));
        due("eight", with(COVER_OF_8).cover(0, 0), 8);
    }

    private static void writeReset() {
        says(22, "Writes the reset word of a graph to the output buffer.");
        SoficShift x = with(COVER_OF_8, RING_OF_8, "0a1;1a2;2a3;3b0");
        x.writeReset(0);
        dueText("c", text(x), "c");
        x.writeReset(1);
        dueText("the empty word", text(x), "");
        x.writeReset(2);
        dueText("b", text(x), "b");

        range(22, SLOT, 0, 1, 5, REDUCIBLE, SoficShift::writeReset, BAD);
        due("the high end", with("", "", "", "", "", GOLDEN).writeReset(5), 1);

        says(22, "Returns the length of the word");
        due("no letter", x.writeReset(1), 0);
        due("one letter", x.writeReset(2), 1);
        x = with("0a1;0b0;0c0;1a2;1b0;1c1;2a0;2b2", ALL_SETS);
        due("two letters", x.writeReset(0), 2);
        dueText("two letters, not the other way round", text(x), "bc");
        feedTo(x, "0b4;1a4;1b2;2a1;2b3;3b0;4a2;4b1").parse(2);
        due("four letters", x.writeReset(2), 4);
        dueText("four letters", text(x), "abba");
        due("a long word", x.writeReset(1), 13);
        dueText("a long word", text(x), "cacacacacacac");

        says(22, BAD_SLOT_FIRST);
        refuses("slot 6", BAD, y -> y.writeReset(6));
        refuses("slot -1", BAD, y -> y.writeReset(-1));

        says(22, REDUCIBLE_SECOND);
        refuses("two parts", REDUCIBLE, y -> y.writeReset(2));
        refuses("no edge", REDUCIBLE, y -> y.writeReset(5));
        refuses("a part with too many vertices", REDUCIBLE, () -> unionOf(COVER_OF_9, "0d0"), y -> y.writeReset(0));

        says(22, TOO_LARGE_LAST);
        refuses("nine", TOO_LARGE, y -> y.writeReset(3));
        due("eight", with(COVER_OF_8).writeReset(0), 1);
    }

    private static void memory() {
        says(23, "Returns the memory of a graph: the lowest number m for which all allowed words of length m are synchronizing words.");
        due("0: the empty word is one", with(ALL_WORDS).memory(0), 0);
        due("1: a and b are", with(GOLDEN).memory(0), 1);
        due("3: the last three letters are known", with(COVER_OF_8).memory(0), 3);

        range(23, SLOT, 0, 1, 5, REDUCIBLE, SoficShift::memory, BAD);
        due("the high end", with("", "", "", "", "", GOLDEN).memory(5), 1);

        says(23, "Returns the memory");
        due("7", with("0a1;1a2;2a3;3a4;4a5;5a6;6a7;7b0").memory(0), 7);
        // Two paths can pass each of the 28 pairs of vertices once.
        due("the highest", with("0a1;0b2;0d0;1a2;1d4;2a3;2d7;3a4;3b3;3c1;3d1;4a5;5a6;5b0;5c4;6a7;6c0;7c7;7d6").memory(0), 28);

        says(23, BAD_SLOT_FIRST);
        refuses("slot 6", BAD, y -> y.memory(6));
        refuses("slot -1", BAD, y -> y.memory(-1));

        says(23, REDUCIBLE_SECOND);
        refuses("two parts", REDUCIBLE, y -> y.memory(2));
        refuses("no edge", REDUCIBLE, y -> y.memory(5));
        refuses("a part with too many vertices", REDUCIBLE, () -> unionOf(COVER_OF_9, "0d0"), y -> y.memory(0));
        refuses("a part without a memory", REDUCIBLE, () -> unionOf(EVEN, "0d0"), y -> y.memory(0));

        says(23, "TOO_LARGE if the cover has more than 8 vertices (checked third)");
        refuses("nine", TOO_LARGE, y -> y.memory(3));
        refuses("nine, and no such number", TOO_LARGE, () -> with(COVER_OF_9 + ";4b5;5d4;5b0;5a5"), y -> y.memory(0));
        due("eight", with(COVER_OF_8).memory(0), 3);

        says(23, "NONE if there is no such number.");
        refuses("even", NONE, y -> y.memory(1));
        due("a loop of one letter at two vertices", with("0a0;1a1;0b1;1c0").memory(0), NONE);
        due("b stays at six vertices", with(ALL_SETS).memory(0), NONE);
    }

    private static void isMixing() {
        says(24, "Returns whether the shift of a graph is mixing, that is, whether the cover has period 1.");
        due("the graph has period 8, its cover 1", with(RING_OF_8).isMixing(0), 1);
        due("the cover has period 8", with(RING_OF_8 + ";0b1").isMixing(0), 0);

        range(24, SLOT, 0, 1, 5, REDUCIBLE, SoficShift::isMixing, BAD);
        due("the high end", with("", "", "", "", "", GOLDEN).isMixing(5), 1);

        says(24, "Returns 1 if it is mixing, otherwise 0");
        due("period 1", with(EVEN).isMixing(0), 1);
        due("period 2", with("0a1;1b0").isMixing(0), 0);
        due("period 7", with("0a1;1a2;2a3;3a4;4a5;5a6;6b0").isMixing(0), 0);

        says(24, BAD_SLOT_FIRST);
        refuses("slot 6", BAD, y -> y.isMixing(6));
        refuses("slot -1", BAD, y -> y.isMixing(-1));

        says(24, REDUCIBLE_SECOND);
        refuses("two parts", REDUCIBLE, y -> y.isMixing(2));
        refuses("no edge", REDUCIBLE, y -> y.isMixing(5));
        refuses("a part with too many vertices", REDUCIBLE, () -> unionOf(COVER_OF_9, "0d0"), y -> y.isMixing(0));

        says(24, TOO_LARGE_LAST);
        refuses("nine", TOO_LARGE, y -> y.isMixing(3));
        due("eight", with(COVER_OF_8).isMixing(0), 1);
    }

    private static void writeDifference() {
        says(25, "Writes a word that distinguishes two shifts to the output buffer: the shortest word that is allowed for exactly one of the "
                + "graphs, and the lexicographically lowest of these.");
        SoficShift x = with(GOLDEN, EVEN, "0a0;0b0", "0a0;0c0;0d0", "0a1");
        x.writeDifference(0, 1);
        dueText("bb, not aba", text(x), "bb");
        x.writeDifference(2, 3);
        dueText("b before c and d", text(x), "b");
        x.writeDifference(3, 2);
        dueText("b before c and d, the other way", text(x), "b");
        x.writeDifference(4, 2);
        dueText("the empty word", text(x), "");

        range(25, FIRST, 0, NONE, 5, 0, (y, v) -> y.writeDifference(v, 0), BAD);
        range(25, SECOND, 0, NONE, 5, 0, (y, v) -> y.writeDifference(0, v), BAD);

        says(25, "Returns the length of the word");
        due("0", x.writeDifference(0, 4), 0);
        due("0, the other way", x.writeDifference(4, 0), 0);
        due("1", x.writeDifference(0, 3), 1);
        due("2", x.writeDifference(0, 1), 2);
        due("3", x.writeDifference(1, 2), 3);
        x = with("0a0;0b0;0c0", ALL_SETS, "0a1;0b0;1a2;1b0;2a2", "0a0;0b0");
        due("15, with every set of vertices", x.writeDifference(0, 1), 15);
        dueText("15", text(x), "cacacacacacacac");
        due("15, the other way", x.writeDifference(1, 0), 15);
        // Here b swaps 2 and 7, so that a word with b can find the last vertex at 7 too; some 29,000 pairs of sets come before.
        feedTo(x, ALL_SETS.replace("0b1;1b0;2b2", "0b0;1b1;2b7").replace("7b7", "7b2")).parse(4);
        due("15, with many pairs of sets", x.writeDifference(1, 4), 15);
        dueText("15", text(x), "cacacbcacacacac");
        due("3, not the other way round", x.writeDifference(2, 3), 3);
        dueText("3", text(x), "aab");

        says(25, BAD_ANY_FIRST);
        refuses("both", BAD, y -> y.writeDifference(6, 6));
        refuses("both", BAD, y -> y.writeDifference(-1, -1));

        says(25, "NONE if the graphs present the same shift, in which case the output buffer does not change.");
        refuses("the same slot", NONE, y -> y.writeDifference(1, 1));
        refuses("the same empty slot", NONE, y -> y.writeDifference(5, 5));
        refuses("another graph of the same words", NONE, () -> with("0a0;0b0", "0a1;0b1;1a0;1b0;7c0"), y -> y.writeDifference(0, 1));
        Supplier<SoficShift> renumbered = () -> {
            SoficShift y = with(ALL_SETS);
            y.cover(0, 1);
            return y;
        };
        refuses("the same words, with every set of vertices", NONE, renumbered, y -> y.writeDifference(0, 1));
        refuses("no allowed word in either", NONE, () -> with("0a1", "7d6;6d5"), y -> y.writeDifference(0, 1));
    }

    // ---- promises 26 to 30

    private static void union() {
        says(26, "Stores the disjoint union of the essential parts of two graphs.");
        SoficShift x = with("7a7;7b0", "3c3;4d3", "2a2");
        due("one and one", x.union(0, 1, 2), 2);
        dueText("without the edges in and out", graph(x, 2), "0a0;1c1");
        due("the same graph twice", x.union(0, 0, 2), 2);
        dueText("two copies", graph(x, 2), "0a0;1a1");

        says(26, "The essential vertices of the first graph get the numbers from 0 in ascending order, and those of the second graph the "
                + "following numbers in ascending order.");
        x = with("7a2;2b5;5c7", "6a1;1b6");
        due("three and two", x.union(0, 1, 2), 5);
        dueText("numbers", graph(x, 2), "0b1;1c2;2a0;3b4;4a3");
        due("two and three", x.union(1, 0, 2), 5);
        dueText("numbers", graph(x, 2), "0b1;1a0;2b3;3c4;4a2");

        range(26, FIRST, 0, 3, 5, 1, (y, v) -> y.union(v, 4, 2), BAD);
        range(26, SECOND, 0, 3, 5, 1, (y, v) -> y.union(4, v, 2), BAD);
        range(26, TARGET_SLOT, 0, 4, 5, 4, (y, v) -> y.union(1, 2, v), BAD);

        says(26, "Returns the number of vertices of the union");
        x = with(RING_OF_8, "0a1");
        due("none and none", x.union(1, 5, 2), 0);
        due("eight and none", x.union(0, 1, 2), 8);
        due("none and eight", x.union(5, 0, 2), 8);
        dueText("its numbers", graph(x, 2), RING_OF_8);

        says(26, BAD_ANY_FIRST);
        refuses("the target, of too many vertices", BAD, y -> y.union(3, 3, 6));
        refuses("all", BAD, y -> y.union(-1, 6, -1));

        says(26, "FULL if it would have more than 8 vertices.");
        refuses("five and five", FULL, y -> y.union(3, 3, 5));
        refuses("eight and one", FULL, () -> with(RING_OF_8, "7d7"), y -> y.union(0, 1, 2));
        refuses("one and eight", FULL, () -> with(RING_OF_8, "7d7"), y -> y.union(1, 0, 1));
        refuses("eight and eight", FULL, () -> with(RING_OF_8), y -> y.union(0, 0, 0));
        due("four and four", with("0a1;1a2;2a3;3a0").union(0, 0, 0), 8);
        SoficShift after = with(RING_OF_8, "7d7");
        due("a large product", after.intersect(0, 0, 2), FULL);
        due("one and one after it", after.union(1, 1, 2), 2);
        due("others outside the essential parts do not count", with("0a1;1a2;2a3;3a4;4a5;5a6;6a7;7a7").union(0, 0, 1), 2);
    }

    private static void intersect() {
        says(27, "Stores a graph whose allowed words are the labels that can be read in two graphs at the same time.");
        SoficShift x = with(GOLDEN, EVEN, "7d7");
        due("golden and even", x.intersect(0, 1, 2), 1);
        dueText("nothing of the old graph is left", graph(x, 2), "0a0");

        says(27, "The product graph has a vertex for each pair (u, v) of a vertex u of the first and a vertex v of the second graph.");
        x = with("7a7", "7a7");
        due("the last pair", x.intersect(0, 1, 2), 1);
        dueText("the last pair", graph(x, 2), "0a0");
        x = with("0a0;7b7", "0a0;7b7");
        due("the first and the last pair", x.intersect(0, 1, 2), 2);
        dueText("the first and the last pair", graph(x, 2), "0a0;1b1");

        says(27, "It has an edge with a letter from (u, v) to (x, y) if the first graph has an edge with this letter from u to x and the "
                + "second graph has one from v to y.");
        x = with("0a0;0b0;0d0", "1b1;1c1;1d1");
        due("the letters of both", x.intersect(0, 1, 2), 1);
        dueText("the letters of both", graph(x, 2), "0b0;0d0");
        x = with("0a0;0a1;1a0;1a1", "3a3");
        due("several edges with the same letter", x.intersect(0, 1, 2), 2);
        dueText("several edges with the same letter", graph(x, 2), "0a0;0a1;1a0;1a1");
        due("the other way", x.intersect(1, 0, 2), 2);
        dueText("the other way", graph(x, 2), "0a0;0a1;1a0;1a1");

        says(27, "The essential part of the product graph is stored; its vertices get the numbers from 0 in ascending order of u, and of v "
                + "for equal u.");
        x = with("0a1;1a0", "5a7;7a6;6a5");
        due("two times three", x.intersect(0, 1, 2), 6);
        // 0 to 5 stand for (0,5) (0,6) (0,7) (1,5) (1,6) (1,7).
        dueText("numbers", graph(x, 2), "0a5;1a3;2a4;3a2;4a0;5a1");
        x = with("0a0;0b1;1c1", "0a0;0b1");
        due("the way out is not essential", x.intersect(0, 1, 2), 1);
        dueText("only the loop", graph(x, 2), "0a0");
        x = with("1a1;1a0", "2a0;0a1;1a1", RING_OF_8, "0a0");
        due("(0, 0) has no way out", x.intersect(0, 0, 4), 1);
        dueText("(0, 0) has no way out", graph(x, 4), "0a0");
        due("(0, 0) has no way in but from (2, 2)", x.intersect(1, 1, 4), 1);
        dueText("(0, 0) has no way in but from (2, 2)", graph(x, 4), "0a0");
        due("after a large product", x.intersect(2, 2, 4), FULL);
        due("nothing of it is left", x.intersect(3, 3, 4), 1);
        due("after a large union", x.union(2, 2, 4), FULL);
        due("nothing of it is left", x.intersect(3, 3, 4), 1);

        range(27, FIRST, 0, 2, 5, 0, (y, v) -> y.intersect(v, 0, 2), BAD);
        range(27, SECOND, 0, 2, 5, 0, (y, v) -> y.intersect(0, v, 2), BAD);
        range(27, TARGET_SLOT, 0, 1, 5, 1, (y, v) -> y.intersect(0, 1, v), BAD);

        says(27, "Returns the number of vertices that are stored");
        due("none in common", with("0a0", "0b0").intersect(0, 1, 2), 0);
        x = with("0a0", "0b0", "0c0");
        x.intersect(0, 1, 2);
        due("none is stored", x.edges(2), 0);
        due("none is recorded too", x.undo(), 2);
        dueText("undone", graph(x, 2), "0c0");
        due("eight of one", with(RING_OF_8, "0a0").intersect(0, 1, 2), 8);

        says(27, BAD_ANY_FIRST);
        refuses("the target, of too many vertices", BAD, () -> with(RING_OF_8), y -> y.intersect(0, 0, 6));
        refuses("all", BAD, y -> y.intersect(-1, 6, -1));

        says(27, "FULL if the product graph has more than 8 essential vertices.");
        due("two times four", with("0a1;1a0", "0a1;1a2;2a3;3a0").intersect(0, 1, 2), 8);
        refuses("three times three", FULL, () -> with("0a1;1a2;2a0"), y -> y.intersect(0, 0, 2));
        refuses("eight times eight", FULL, () -> with(RING_OF_8), y -> y.intersect(0, 0, 0));
        due("others do not count", with("0a1;1a2;2a3;3a4;4a5;5a6;6a7;7a7").intersect(0, 0, 1), 1);
    }

    private static void reverse() {
        says(28, "Stores a graph with every edge reversed.");
        SoficShift x = with("0a7;7d0;1b1;2c3", "5a5");
        due("four", x.reverse(0, 1), 4);
        dueText("nothing of the old graph is left", graph(x, 1), "0d7;1b1;3c2;7a0");
        dueText("the graph stays", graph(x, 0), "0a7;1b1;2c3;7d0");

        says(28, "The vertices keep their numbers.");
        x = with("3a6");
        x.reverse(0, 1);
        dueText("also outside the essential part", graph(x, 1), "6a3");

        range(28, SLOT_OF_GRAPH, 0, 3, 5, 0, (y, v) -> y.reverse(v, 1), BAD);
        range(28, TARGET_SLOT, 0, 2, 5, 2, (y, v) -> y.reverse(2, v), BAD);

        says(28, "Returns the number of edges");
        x = with("", GOLDEN);
        due("none", x.reverse(0, 1), 0);
        due("none is stored", x.edges(1), 0);
        due("none is recorded too", x.undo(), 1);
        for (int i = 0; i < 256; i++) {
            x.addEdge(2, i / 32, i / 8 % 4, i % 8);
        }
        due("all", x.reverse(2, 3), 256);

        says(28, BAD_ANY);
        refuses("both", BAD, y -> y.reverse(6, 6));
        refuses("both", BAD, y -> y.reverse(-1, -1));
    }

    private static void relabel() {
        says(29, "Stores a graph in which every edge with one letter has another letter instead.");
        SoficShift x = with("0a1;1a2;2b3;7d7", "5a5");
        due("a to c", x.relabel(0, 0, 2, 1), 4);
        dueText("nothing of the old graph is left", graph(x, 1), "0c1;1c2;2b3;7d7");
        due("a letter without an edge", x.relabel(0, 2, 0, 1), 4);
        dueText("the graph is copied", graph(x, 1), "0a1;1a2;2b3;7d7");
        due("a letter to itself", x.relabel(0, 0, 0, 1), 4);
        dueText("the graph is copied", graph(x, 1), "0a1;1a2;2b3;7d7");

        says(29, "The vertices keep their numbers, and edges that become the same are contained only once.");
        x = with("3a6;3b6;3c6;3d6;3a5");
        due("a and b", x.relabel(0, 1, 0, 1), 4);
        dueText("a and b", graph(x, 1), "3a5;3a6;3c6;3d6");

        range(29, SLOT_OF_GRAPH, 0, 3, 5, 0, (y, v) -> y.relabel(v, 0, 1, 1), BAD);
        range(29, "`from`: the letter that is replaced, 0 to 3", 0, 6, 3, 9, (y, v) -> y.relabel(3, v, 1, 5), BAD);
        range(29, "`to`: the new letter, 0 to 3", 0, 6, 3, 9, (y, v) -> y.relabel(3, 1, v, 5), BAD);
        range(29, TARGET_SLOT, 0, 2, 5, 2, (y, v) -> y.relabel(2, 0, 1, v), BAD);

        says(29, "Returns the number of edges of the new graph");
        due("four become one", foldedLoops(), 1);
        due("none", with().relabel(0, 0, 3, 5), 0);

        says(29, BAD_ANY);
        refuses("all", BAD, y -> y.relabel(6, 4, 4, 6));
        refuses("all", BAD, y -> y.relabel(-1, -1, -1, -1));
        refuses("the same wrong letter twice", BAD, y -> y.relabel(0, 4, 4, 0));
    }

    private static long foldedLoops() {
        SoficShift x = with(ALL_WORDS);
        x.relabel(0, 0, 3, 0);
        x.relabel(0, 1, 3, 0);
        return x.relabel(0, 2, 3, 0);
    }

    /** An object with the words of a and b in the slots 0 and 4 and a word in the input buffer. */
    private static Supplier<SoficShift> withWord(String word) {
        return () -> feedTo(with("0a0;0b0", GOLDEN, EVEN, PARTED, "0a0;0b0"), word);
    }

    private static void forbid() {
        says(30, "Stores a graph whose infinite paths are those of a given graph that do not contain the word in the input buffer.");
        SoficShift x = with("0a0;0b0", "7d7");
        due("bb", feedTo(x, "bb").forbid(0, 1), 2);
        dueText("nothing of the old graph is left", graph(x, 1), GOLDEN);
        due("a word that is not allowed anyway", feedTo(x, "bb").forbid(1, 2), 2);
        due("the same shift", x.writeDifference(1, 2), NONE);

        says(30, "The word w has 1 to 6 letters.");
        due("one", withWord("a").get().forbid(0, 5), 1);
        due("six", withWord("aaaaab").get().forbid(0, 5), 6);
        due("none", withWord("").get().forbid(0, 5), BAD);
        due("seven", withWord("aaaaaab").get().forbid(0, 5), BAD);

        forbidTracking();

        says(30, "The input buffer is empty afterwards, even after an error; it is kept if a slot is out of range.");
        x = with("0a0;0b0");
        due("stored", feedTo(x, "bb").forbid(0, 1), 2);
        due("then empty", x.feed('!'), 1);
        due("not a word", x.forbid(0, 1), -100);
        due("then empty", feedTo(x, "aaaaaa").feed('a'), 7);
        due("seven letters", x.forbid(0, 1), BAD);
        due("then empty", x.feed('b'), 1);
        for (int slot : new int[] {-1, 6, LOWEST, HIGHEST}) {
            due("slot " + slot, x.forbid(slot, 0), BAD);
            due("target " + slot, x.forbid(0, slot), BAD);
        }
        due("kept", x.forbid(0, 1), 1);
        dueText("kept", graph(x, 1), "0a0");

        says(30, SLOT_OF_GRAPH);
        due("the low end", feedTo(with(GOLDEN), "bb").forbid(0, 1), 2);
        due("the high end", feedTo(with("", "", "", "", "", EVEN), "bb").forbid(5, 1), 1);
        for (int slot : new int[] {-1, 6, LOWEST, HIGHEST}) {
            refuses("slot " + slot, BAD, withWord("a"), y -> y.forbid(slot, 0));
        }

        says(30, TARGET_SLOT);
        x = with("", GOLDEN);
        due("the low end", feedTo(x, "b").forbid(1, 0), 1);
        dueText("the low end", graph(x, 0), "0a0");
        due("the high end", feedTo(x, "b").forbid(1, 5), 1);
        dueText("the high end", graph(x, 5), "0a0");
        for (int slot : new int[] {-1, 6, LOWEST, HIGHEST}) {
            refuses("target " + slot, BAD, withWord("a"), y -> y.forbid(0, slot));
        }

        forbidAnswers();
    }

    private static void forbidTracking() {
        says(30, "The tracking graph has a vertex (v, k) for each vertex v of the given graph and each k from 0 to the length of w minus 1.");
        SoficShift x = with("7a7;7b7");
        due("the last vertex, k 0 to 5", feedTo(x, "abbbbb").forbid(0, 1), 6);
        dueText("k 0 to 5", graph(x, 1), "0a1;0b0;1a1;1b2;2a1;2b3;3a1;3b4;4a1;4b5;5a1");

        says(30, "For each edge of the given graph from v to x with letter a and each k, let j be the length of the longest suffix of the "
                + "word that consists of the first k letters of w followed by a, such that this suffix is also a prefix of w.");
        due("the word repeats itself", feedTo(x, "abab").forbid(0, 1), 4);
        dueText("abaa falls back to a", graph(x, 1), "0a1;0b0;1a1;1b2;2a3;2b0;3a1");
        due("one letter, six times", feedTo(x, "aaaaaa").forbid(0, 1), 6);
        dueText("b falls back to nothing", graph(x, 1), "0a1;0b0;1a2;1b0;2a3;2b0;3a4;3b0;4a5;4b0;5b0");
        due("a long prefix within the word", feedTo(x, "aabaab").forbid(0, 1), 6);
        dueText("aabaaa falls back to aa", graph(x, 1), "0a1;0b0;1a2;1b0;2a2;2b3;3a4;3b0;4a5;4b0;5a2");

        says(30, "If j is less than the length of w, the tracking graph has an edge with letter a from (v, k) to (x, j).");
        due("one letter: no edge of it", feedTo(x, "b").forbid(0, 1), 1);
        dueText("one letter", graph(x, 1), "0a0");
        due("two letters: none from k 1", feedTo(x, "ab").forbid(0, 1), 2);
        dueText("two letters", graph(x, 1), "0a1;0b0;1a1");

        says(30, "The essential part of the tracking graph is stored; its vertices get the numbers from 0 in ascending order of v, and of k "
                + "for equal v.");
        x = with("2a5;5a2;2b2");
        // (2,0), (2,1) and (5,0) are 0, 1 and 2; (5,1) has no way in.
        due("bb in a ring of two", feedTo(x, "bb").forbid(0, 1), 3);
        dueText("numbers", graph(x, 1), "0a2;0b1;1a2;2a0");
        due("nothing is left", feedTo(with("0a0"), "a").forbid(0, 1), 0);
    }

    private static void forbidAnswers() {
        says(30, "Returns the number of vertices that are stored");
        SoficShift x = feedTo(with("0a0", GOLDEN), "a");
        due("none", x.forbid(0, 1), 0);
        due("that is stored too", x.edges(1), 0);
        due("and recorded", x.undo(), 1);
        dueText("undone", graph(x, 1), GOLDEN);
        due("no graph", feedTo(with(), "a").forbid(0, 1), 0);
        due("eight", feedTo(with("0a1;0b1;1a0;1b0"), "aaab").forbid(0, 1), 8);

        says(30, "BAD_ARGUMENT if a slot is out of range (checked first)");
        refuses("not a word, and a wrong slot", BAD, withWord("2b2"), y -> y.forbid(6, 0));
        refuses("not a word, and a wrong target", BAD, withWord("!"), y -> y.forbid(0, -1));
        refuses("too long, and a wrong target", BAD, withWord("aaaaaaa"), y -> y.forbid(0, 6));
        refuses("both", BAD, withWord("a"), y -> y.forbid(-1, 6));

        says(30, "-100 minus the error position if the buffer does not contain a word (checked second)");
        refusesAndEmpties("a digit", -100, BoundaryTest::lived, y -> y.forbid(0, 1));
        refusesAndEmpties("the sign before a", -101, withWord("a`"), y -> y.forbid(0, 1));
        refusesAndEmpties("the sign behind d", -105, withWord("abcdae"), y -> y.forbid(0, 1));
        refusesAndEmpties("behind six letters", -106, withWord("aaaaaa!"), y -> y.forbid(0, 1));
        refusesAndEmpties("behind seven letters", -107, withWord("aaaaaaa!"), y -> y.forbid(0, 1));
        refusesAndEmpties("at the end of the buffer", -219, withWord("a".repeat(119) + "!"), y -> y.forbid(0, 1));

        says(30, "BAD_ARGUMENT if the word does not have 1 to 6 letters (checked third)");
        refusesAndEmpties("none", BAD, withWord(""), y -> y.forbid(0, 1));
        refusesAndEmpties("seven", BAD, withWord("aaaaaaa"), y -> y.forbid(0, 1));
        refusesAndEmpties("120", BAD, withWord("a".repeat(120)), y -> y.forbid(0, 1));
        refusesAndEmpties("seven, of too many vertices", BAD, () -> feedTo(with(RING_OF_8 + ";0b0"), "aaaaaab"), y -> y.forbid(0, 1));

        says(30, "FULL if the tracking graph has more than 8 essential vertices.");
        refusesAndEmpties("nine", FULL, () -> feedTo(with("0a1;0b1;1a2;1b2;2a0;2b0"), "aab"), y -> y.forbid(0, 1));
        refusesAndEmpties("nine, to its own slot", FULL, () -> feedTo(with("0a1;0b1;1a2;1b2;2a0;2b0"), "aab"), y -> y.forbid(0, 0));
        due("eight", feedTo(with("0a1;0b1;1a2;1b2;2a3;2b3;3a0;3b0"), "ab").forbid(0, 1), 8);
        x = with(RING_OF_8, "7d7");
        due("a large product", x.intersect(0, 0, 2), FULL);
        due("one vertex after it", feedTo(x, "a").forbid(1, 2), 1);
        due("others do not count", feedTo(with("0a1;1a2;2a3;3a4;4a5;5a6;6a7;7a7"), "bb").forbid(0, 1), 1);
    }

    // ---- promises 31 to 35

    private static void writeGraph() {
        says(31, "Writes a graph to the output buffer in the format in which a graph is read, with its edges in ascending order of source, "
                + "letter and target.");
        SoficShift x = with("7d7;0d0;0a7;0a0;7a0");
        x.writeGraph(0);
        dueText("in order", text(x), "0a0;0a7;0d0;7a0;7d7");
        feedTo(x, "0a0;0a7;0d0;7a0;7d7").parse(1);
        due("it can be read", x.edges(1), 5);

        range(31, SLOT, 0, 11, 5, 0, SoficShift::writeGraph, BAD);

        says(31, "Returns the length of the text, which is 0 for a graph without edges");
        due("no edge", x.writeGraph(5), 0);
        dueText("no edge", text(x), "");
        due("one edge", with("0a0").writeGraph(0), 3);
        due("two edges", with(PARTED).writeGraph(0), 7);
        x = new SoficShift();
        for (int i = 0; i < 256; i++) {
            x.addEdge(0, i / 32, i / 8 % 4, i % 8);
        }
        due("all edges", x.writeGraph(0), 1023);
        due("the last but two", x.output(1020), '7');
        due("the last but one", x.output(1021), 'd');
        due("the last", x.output(1022), '7');
        due("behind the last", x.output(1023), NONE);

        says(31, BAD_SLOT);
        refuses("slot 6", BAD, y -> y.writeGraph(6));
        refuses("slot -1", BAD, y -> y.writeGraph(-1));
    }

    private static void output() {
        says(32, "Returns a character of the output buffer, which is empty at first.");
        due("at first", new SoficShift().output(0), NONE);
        due("the input is not the output", feedTo(new SoficShift(), "a").output(0), NONE);

        says(32, "`i`: the index, from 0");
        due("the first", lived().output(0), 'b');
        due("the last", lived().output(2), 'b');

        says(32, "Returns the character code");
        SoficShift x = with("7d0;7d7");
        x.writeGraph(0);
        int[] codes = {55, 100, 48, 59, 55, 100, 55};
        for (int i = 0; i < codes.length; i++) {
            due("character " + i, x.output(i), codes[i]);
        }

        says(32, "NONE if the index is out of range.");
        for (int i : new int[] {-1, 3, LOWEST, HIGHEST}) {
            refuses("index " + i, NONE, y -> y.output(i));
        }
        x.writeWord(0, 1, 0);
        due("what was longer is gone", x.output(1), NONE);
        x.writeGraph(5);
        due("an empty text", x.output(0), NONE);
    }

    private static void undo() {
        says(33, "Restores the graph that was replaced last and removes it from the history.");
        SoficShift x = with(GOLDEN);
        feedTo(x, EVEN).parse(0);
        x.undo();
        dueText("golden", graph(x, 0), GOLDEN);
        x.undo();
        dueText("nothing", graph(x, 0), "");
        x.undo();
        dueText("nothing more", graph(x, 0), "");
        x.addEdge(0, 1, 1, 1);
        x.undo();
        due("an undone graph is not recorded", x.undo(), NOTHING);
        for (int i = 0; i < 25; i++) {
            x.addEdge(1, i / 8, 0, i % 8);
        }
        for (int i = 0; i < 4; i++) {
            x.undo();
        }
        for (int i = 0; i < 3; i++) {
            x.addEdge(2, i, 3, i);
        }
        for (int i = 0; i < 9; i++) {
            due("after undoing and going on", x.undo(), i < 3 ? 2 : 1);
        }
        due("six of 21 are undone", x.edges(1), 15);
        due("ten and no more", x.undo(), NOTHING);

        says(33, "Returns the slot of the graph");
        x = new SoficShift();
        for (int slot = 0; slot < 6; slot++) {
            x.addEdge(slot, 0, 0, 0);
        }
        for (int slot = 5; slot >= 0; slot--) {
            due("slot " + slot, x.undo(), slot);
        }

        says(33, "NOTHING_SAVED if the history is empty.");
        refuses("at first", NOTHING, SoficShift::new, y -> y.undo());
        refuses("after a restore", NOTHING, BoundaryTest::restored, y -> y.undo());
        Supplier<SoficShift> undone = () -> {
            SoficShift y = lived();
            for (int i = 0; i < 10; i++) {
                y.undo();
            }
            return y;
        };
        refuses("after ten", NOTHING, undone, y -> y.undo());
        due("a saved state is not in it", new SoficShift().save() + new SoficShift().undo(), NOTHING);
    }

    private static SoficShift restored() {
        SoficShift x = lived();
        x.restore();
        return x;
    }

    private static void save() {
        says(34, "Saves all six graphs, in place of a state that was saved before.");
        SoficShift x = with("0a0", "1a1", "2a2", "3a3", "4a4", "5a5");
        x.save();
        for (int slot = 0; slot < 6; slot++) {
            x.random(slot, 0, 0);
        }
        due("all are gone", x.restore(), 6);
        for (int slot = 0; slot < 6; slot++) {
            dueText("slot " + slot, graph(x, slot), slot + "a" + slot);
        }
        x.addEdge(5, 7, 3, 7);
        due("saved again", x.save(), 7);
        x.random(5, 0, 0);
        due("the later state", x.restore(), 7);
        due("saved twice", x.save() + x.save(), 14);

        says(34, "Returns the total number of edges of all graphs.");
        due("none", new SoficShift().save(), 0);
        due("of all slots, also outside the essential parts", with("0a0", "0a1;1b2", GOLDEN, "", "", "7d7").save(), 7);
        due("the history stays", with(GOLDEN).undo(), 0);
        SoficShift y = with(GOLDEN);
        y.save();
        due("the history stays", y.undo(), 0);
    }

    private static void restore() {
        says(35, "Restores the saved graphs, which stay saved.");
        SoficShift x = with("0a0", "", "", "", "", "5a5");
        x.save();
        for (int i = 0; i < 3; i++) {
            feedTo(x, GOLDEN).parse(0);
            x.random(5, 1, 9);
            x.addEdge(3, 3, 3, 3);
            x.restore();
            dueText("slot 0, round " + i, graph(x, 0), "0a0");
            dueText("slot 3, round " + i, graph(x, 3), "");
            dueText("slot 5, round " + i, graph(x, 5), "5a5");
        }
        x = lived();
        x.restore();
        dueText("the output stays", text(x), "bab");
        due("the arrays stay", x.checkCounts(0, 0), NONE);
        due("the input stays", x.parse(0), 1);

        says(35, "The history becomes empty.");
        due("after ten replacements", restored().undo(), NOTHING);
        x = restored();
        x.addEdge(4, 0, 0, 0);
        due("a new one", x.undo(), 4);
        due("it is the only one", x.undo(), NOTHING);

        says(35, "Returns the total number of edges of all graphs");
        due("of the saved ones", lived().restore(), 21);
        x = new SoficShift();
        x.save();
        x.addEdge(0, 0, 0, 0);
        due("a saved state without edges", x.restore(), 0);

        says(35, "NOTHING_SAVED if nothing was saved.");
        refuses("never", NOTHING, () -> feedTo(with(GOLDEN, EVEN), "2b2"), y -> y.restore());
        refuses("a new object", NOTHING, SoficShift::new, y -> y.restore());
    }

    // ---- promises 36 to 40

    private static void createArray() {
        says(36, "Creates an array in place of one of four arrays, which are numbered 0 to 3 and do not exist at first.");
        SoficShift x = new SoficShift();
        for (int array = 0; array < 4; array++) {
            due("not at first: " + array, x.compareElements(array, 0, 0), NO_ARRAY);
            due("created: " + array, x.createArray(array, 0, 1), 1);
            due("there: " + array, x.compareElements(array, 0, 0), 1);
        }
        due("in place of a byte array", x.createArray(0, 2, 2), 1);
        due("a float array now", x.setNaN(0, 1), 1);
        due("in place of a float array", x.createArray(0, 1, 1), 1);
        due("a char array now", x.setNaN(0, 0), NOT_FLOAT);
        due("and shorter", x.setElement(0, 1, 0), BAD_INDEX);

        says(36, "All elements are 0.");
        for (int type = 0; type < 3; type++) {
            x = new SoficShift();
            x.createArray(0, type, 30);
            due("type " + type + ": no word is counted 0 times", x.checkCounts(0, 0), NONE);
            for (int i = 0; i < 30; i++) {
                x.setElement(0, i, 7);
            }
            if (type == 2) {
                x.setNaN(0, 29);
            }
            x.createArray(0, type, 30);
            due("type " + type + ": 0 again", x.checkCounts(0, 0), NONE);
        }

        range(36, ARRAY, 0, 1, 3, 1, (y, v) -> y.createArray(v, 0, 3), BAD);
        range(36, "`type`: 0 for byte, 1 for char, 2 for float", 0, 1, 2, 1, (y, v) -> y.createArray(3, v, 3), BAD);
        x = new SoficShift();
        for (int type = 0; type < 3; type++) {
            x.createArray(type, type, 2);
            x.setElement(type, 0, -1);
        }
        due("byte: -1 is less than 0", x.compareElements(0, 0, 1), 0);
        due("char: -1 is 65535", x.compareElements(1, 0, 1), 2);
        due("float: it can be NaN", x.setNaN(2, 0), 1);

        says(36, "`length`: the length, 0 to 30");
        x = new SoficShift();
        for (int length = 0; length <= 30; length++) {
            due("length " + length, x.createArray(0, 0, length), 1);
            due("its last element", x.setElement(0, length - 1, 1), length == 0 ? BAD_INDEX : 1);
            due("no further element", x.setElement(0, length, 1), BAD_INDEX);
        }

        says(36, "Returns 1");
        due("the shortest", x.createArray(3, 2, 0), 1);
        due("the longest", x.createArray(3, 2, 30), 1);

        says(36, "BAD_ARGUMENT if the array number or the type is out of range or the length is greater than 30 (checked first)");
        refuses("length 31", BAD, y -> y.createArray(0, 0, 31));
        refuses("the highest length", BAD, y -> y.createArray(0, 0, HIGHEST));
        refuses("array, and a negative length", BAD, y -> y.createArray(4, 0, -1));
        refuses("array, and a negative length", BAD, y -> y.createArray(-1, 0, -1));
        refuses("type, and a negative length", BAD, y -> y.createArray(0, 3, -1));
        refuses("type, and a negative length", BAD, y -> y.createArray(0, -1, LOWEST));

        says(36, "-14 if the length is negative.");
        refuses("-1", NEGATIVE, y -> y.createArray(0, 1, -1));
        refuses("the lowest", NEGATIVE, y -> y.createArray(0, 1, LOWEST));
        refuses("of an array that does not exist", NEGATIVE, y -> y.createArray(3, 2, -1));
    }

    /** An object whose array 0 has a type and the given values. */
    private static SoficShift row(int type, int... values) {
        SoficShift x = new SoficShift();
        x.createArray(0, type, values.length);
        for (int i = 0; i < values.length; i++) {
            x.setElement(0, i, values[i]);
        }
        return x;
    }

    private static void setElement() {
        says(37, "Sets an element of an array.");
        SoficShift x = row(0, 1, 2, 3);
        x.setElement(0, 1, 4);
        due("it alone", x.compareElements(0, 1, 2), 2);
        due("not the others", x.compareElements(0, 0, 2), 0);

        says(37, "In a byte or char array, the value is narrowed by a Java cast.");
        int[] values = {127, 128, 255, 256, 257, -128, -129, -1, -256, 9999, -9999, 0, 1, 32767 / 4};
        for (int v : values) {
            for (int w : values) {
                due("bytes " + v + " and " + w, row(0, v, w).compareElements(0, 0, 1), 1 + Integer.signum(Byte.compare((byte) v, (byte) w)));
                due("chars " + v + " and " + w, row(1, v, w).compareElements(0, 0, 1),
                        1 + Integer.signum(Character.compare((char) v, (char) w)));
            }
        }

        says(37, "In a float array, the element becomes v / 8.");
        for (int v : new int[] {0, 1, 7, 8, 9, 9998, 9999, -1, -7, -8, -9, -9999}) {
            for (int w : new int[] {0, 1, 7, 8, 9, 9998, 9999, -1, -7, -8, -9, -9999}) {
                due("floats " + v + " and " + w, row(2, v, w).compareElements(0, 0, 1), 1 + Integer.signum(Integer.compare(v, w)));
            }
        }
        SoficShift y = row(2, 8, 16, 24, 41);
        feedTo(y, GOLDEN).parse(0);
        due("1, 2 and 3, but not 5 and an eighth", y.checkCounts(0, 0), 3);
        y.setElement(0, 3, 40);
        due("5", y.checkCounts(0, 0), NONE);
        y.setNaN(0, 3);
        y.setElement(0, 3, 40);
        due("5 in the place of NaN", y.checkCounts(0, 0), NONE);

        range(37, ARRAY, 0, 1, 3, NO_ARRAY, (z, v) -> z.setElement(v, 0, 5), BAD);
        x.createArray(3, 0, 1);
        due("the high end, when it exists", x.setElement(3, 0, 5), 1);

        says(37, "`i`: the index");
        due("the first", lived().setElement(0, 0, 5), 1);
        due("the last", lived().setElement(0, 2, 5), 1);
        due("the last of the longest", row(2, new int[30]).setElement(0, 29, 5), 1);

        range(37, "`v`: the value, -9999 to 9999", -9999, 1, 9999, 1, (z, v) -> z.setElement(2, 0, v), BAD);

        says(37, "Returns 1");
        for (int type = 0; type < 3; type++) {
            due("type " + type, lived().setElement(type, 1, 0), 1);
        }

        says(37, "BAD_ARGUMENT if the array number or the value is out of range (checked first)");
        refuses("a value for an array that does not exist", BAD, z -> z.setElement(3, 0, 10000));
        refuses("a value for an index that does not exist", BAD, z -> z.setElement(0, 3, -10000));
        refuses("an array, a value and an index", BAD, z -> z.setElement(4, -1, 10000));
        refuses("an array number", BAD, z -> z.setElement(-1, 0, 0));

        says(37, NO_ARRAY_SECOND);
        refuses("array 3", NO_ARRAY, z -> z.setElement(3, 0, 0));
        refuses("array 3, a negative index", NO_ARRAY, z -> z.setElement(3, -1, 0));
        refuses("a refused array", NO_ARRAY, () -> refusedArray(), z -> z.setElement(0, 0, 0));

        says(37, "-13 if the index is out of range.");
        for (int i : new int[] {-1, 3, LOWEST, HIGHEST}) {
            refuses("index " + i, BAD_INDEX, z -> z.setElement(0, i, 9));
            refuses("index " + i + " of floats", BAD_INDEX, z -> z.setElement(2, i, 9));
        }
        due("no element", row(0).setElement(0, 0, 0), BAD_INDEX);
    }

    private static SoficShift refusedArray() {
        SoficShift x = new SoficShift();
        x.createArray(0, 0, -1);
        x.createArray(0, 0, 31);
        x.createArray(0, 3, 1);
        return x;
    }

    private static void setNaN() {
        says(38, "Sets an element of a float array to NaN.");
        SoficShift x = row(2, 1, 1, 1);
        x.setNaN(0, 1);
        due("it", x.compareElements(0, 1, 1), 3);
        due("not the one before", x.compareElements(0, 0, 0), 1);
        due("not the one behind", x.compareElements(0, 2, 0), 1);

        range(38, ARRAY, 0, NOT_FLOAT, 3, NO_ARRAY, (y, v) -> y.setNaN(v, 0), BAD);
        for (int array = 0; array < 4; array++) {
            x.createArray(array, 2, 1);
            due("array " + array, x.setNaN(array, 0), 1);
        }

        says(38, "`i`: the index");
        due("the first", lived().setNaN(2, 0), 1);
        due("the last", lived().setNaN(2, 2), 1);
        due("the last of the longest", row(2, new int[30]).setNaN(0, 29), 1);

        says(38, "Returns 1");
        due("a number", lived().setNaN(2, 1), 1);
        due("NaN again", lived().setNaN(2, 2), 1);

        says(38, "BAD_ARGUMENT if the array number is out of range (checked first)");
        refuses("and no index", BAD, y -> y.setNaN(4, -1));
        refuses("and no index", BAD, y -> y.setNaN(-1, 3));

        says(38, NO_ARRAY_SECOND);
        refuses("array 3", NO_ARRAY, y -> y.setNaN(3, 0));
        refuses("array 3, a negative index", NO_ARRAY, y -> y.setNaN(3, -1));

        says(38, "-12 if it is not a float array (checked third)");
        refuses("bytes", NOT_FLOAT, y -> y.setNaN(0, 0));
        refuses("chars", NOT_FLOAT, y -> y.setNaN(1, 0));
        refuses("bytes, and no such index", NOT_FLOAT, y -> y.setNaN(0, 3));
        refuses("chars, and no such index", NOT_FLOAT, y -> y.setNaN(1, -1));

        says(38, "-13 if the index is out of range.");
        for (int i : new int[] {-1, 3, LOWEST, HIGHEST}) {
            refuses("index " + i, BAD_INDEX, y -> y.setNaN(2, i));
        }
        due("no element", row(2).setNaN(0, 0), BAD_INDEX);
    }

    private static void compareElements() {
        says(39, "Compares two elements of an array.");
        SoficShift x = row(0, 1, 2);
        due("the first and the second", x.compareElements(0, 0, 1), 0);
        due("the second and the first", x.compareElements(0, 1, 0), 2);

        range(39, ARRAY, 0, 0, 3, NO_ARRAY, (y, v) -> y.compareElements(v, 0, 1), BAD);
        x.createArray(3, 0, 1);
        due("the high end, when it exists", x.compareElements(3, 0, 0), 1);

        says(39, "`i`: the index of the first element");
        due("the first of three", lived().compareElements(0, 0, 1), 0);
        due("the last of three", lived().compareElements(0, 2, 1), 2);

        says(39, "`j`: the index of the second element");
        due("the first of three", lived().compareElements(0, 1, 0), 2);
        due("the last of three", lived().compareElements(0, 1, 2), 0);

        says(39, "Returns 0 if the first element is less than the second, 1 if they are equal, 2 if the first is greater, 3 if at least one "
                + "of them is NaN (also if i and j are the same)");
        for (int type = 0; type < 3; type++) {
            due("less, type " + type, row(type, 1, 2).compareElements(0, 0, 1), 0);
            due("equal, type " + type, row(type, 2, 2).compareElements(0, 0, 1), 1);
            due("greater, type " + type, row(type, 2, 1).compareElements(0, 0, 1), 2);
            due("itself, type " + type, row(type, 2).compareElements(0, 0, 0), 1);
        }
        due("the least eighth less", row(2, 9998, 9999).compareElements(0, 0, 1), 0);
        due("about 0", row(2, -1, 1).compareElements(0, 0, 1), 0);
        due("the first is NaN", lived().compareElements(2, 2, 0), 3);
        due("the second is NaN", lived().compareElements(2, 0, 2), 3);
        due("NaN with itself", lived().compareElements(2, 2, 2), 3);
        x = row(2, 0, 0);
        x.setNaN(0, 0);
        x.setNaN(0, 1);
        due("two of them are NaN", x.compareElements(0, 0, 1), 3);

        says(39, "BAD_ARGUMENT if the array number is out of range (checked first)");
        refuses("and no index", BAD, y -> y.compareElements(4, -1, 3));
        refuses("and no index", BAD, y -> y.compareElements(-1, 3, -1));

        says(39, NO_ARRAY_SECOND);
        refuses("array 3", NO_ARRAY, y -> y.compareElements(3, 0, 0));
        refuses("array 3, and no index", NO_ARRAY, y -> y.compareElements(3, -1, 30));

        says(39, "-13 if an index is out of range.");
        for (int i : new int[] {-1, 3, LOWEST, HIGHEST}) {
            refuses("the first index " + i, BAD_INDEX, y -> y.compareElements(0, i, 0));
            refuses("the second index " + i, BAD_INDEX, y -> y.compareElements(0, 0, i));
            refuses("both " + i, BAD_INDEX, y -> y.compareElements(0, i, i));
            refuses("the first index " + i + ", and NaN", BAD_INDEX, y -> y.compareElements(2, i, 2));
            refuses("the second index " + i + ", and NaN", BAD_INDEX, y -> y.compareElements(2, 2, i));
        }
        due("no element", row(0).compareElements(0, 0, 0), BAD_INDEX);
    }

    private static void checkCounts() {
        says(40, "Checks the elements of an array against the numbers of allowed words of a graph.");
        SoficShift x = lived();
        due("1 2 3, as the golden mean", x.checkCounts(0, 0), NONE);
        due("1 2 4 for the even shift", x.checkCounts(0, 1), 2);

        says(40, "Element i must be equal to the number of allowed words of length i, converted to the type of the elements by a Java cast.");
        x = new SoficShift();
        feedTo(x, ALL_WORDS).parse(0);
        x.createArray(0, 0, 30);
        int[] powers = {1, 4, 16, 64};
        for (int i = 0; i < 4; i++) {
            x.setElement(0, i, powers[i]);
        }
        due("bytes: 256 and all that follow are 0", x.checkCounts(0, 0), NONE);
        x.setElement(0, 29, 1);
        due("but not 1", x.checkCounts(0, 0), 29);
        feedTo(x, "0a0;0b0").parse(1);
        x.createArray(0, 0, 30);
        for (int i = 0; i < 8; i++) {
            x.setElement(0, i, i == 7 ? -128 : 1 << i);
        }
        due("bytes: 128 is -128", x.checkCounts(0, 1), NONE);
        x.createArray(1, 1, 30);
        for (int i = 0; i < 14; i++) {
            x.setElement(1, i, 1 << i);
        }
        due("chars: 16384 cannot be set", x.checkCounts(1, 1), 14);
        x.createArray(1, 1, 8);
        for (int i = 0; i < 8; i++) {
            x.setElement(1, i, 1 << i);
        }
        due("chars: 128 is 128", x.checkCounts(1, 1), NONE);
        x.setElement(1, 7, -128);
        due("chars: -128 is not 128", x.checkCounts(1, 1), 7);
        x.createArray(2, 2, 11);
        for (int i = 0; i < 11; i++) {
            x.setElement(2, i, 8 << i);
        }
        due("floats: up to 1024", x.checkCounts(2, 1), NONE);
        x.setElement(2, 10, 8 * 1024 + 1);
        due("floats: an eighth too much", x.checkCounts(2, 1), 10);
        x.setElement(2, 10, 8 * 1024 - 1);
        due("floats: an eighth too little", x.checkCounts(2, 1), 10);
        x.setElement(2, 10, 8 * 1024);
        x.setNaN(2, 4);
        due("floats: NaN is equal to nothing", x.checkCounts(2, 1), 4);

        range(40, ARRAY, 0, NONE, 3, NO_ARRAY, (y, v) -> y.checkCounts(v, 0), BAD);
        x.createArray(3, 0, 1);
        due("the high end, when it exists", x.checkCounts(3, 5), NONE);
        range(40, SLOT_OF_GRAPH, 0, NONE, 5, 0, (y, v) -> y.checkCounts(0, v), BAD);

        says(40, "Returns the index of the first element for which this does not hold");
        for (int i = 0; i < 3; i++) {
            SoficShift y = lived();
            y.setElement(0, i, 0);
            y.setElement(0, 2, 0);
            due("element " + i, y.checkCounts(0, 0), i);
        }
        SoficShift last = row(0, 1, 1, 1, 1, 1, 1, 1, 1, 1, 1, 1, 1, 1, 1, 1, 1, 1, 1, 1, 1, 1, 1, 1, 1, 1, 1, 1, 1, 1, 2);
        feedTo(last, "0a0").parse(0);
        due("the last of the longest", last.checkCounts(0, 0), 29);
        last.setElement(0, 29, 1);
        due("all of the longest", last.checkCounts(0, 0), NONE);

        says(40, BAD_ANY_FIRST);
        refuses("a slot, for an array that does not exist", BAD, y -> y.checkCounts(3, 6));
        refuses("both", BAD, y -> y.checkCounts(4, -1));

        says(40, NO_ARRAY_SECOND);
        refuses("array 3", NO_ARRAY, y -> y.checkCounts(3, 0));
        refuses("array 3, a graph without words", NO_ARRAY, y -> y.checkCounts(3, 5));

        says(40, "NONE if it holds for all elements.");
        refuses("three", NONE, y -> y.checkCounts(1, 0));
        for (int type = 0; type < 3; type++) {
            due("no elements, type " + type, row(type).checkCounts(0, 0), NONE);
            due("zeros for no words, type " + type, row(type, new int[30]).checkCounts(0, 0), NONE);
        }
    }

    // ---- the document

    private static void compareWithDocument(Path path) throws IOException {
        promise = 0;
        sentence = "the document";
        if (!Files.exists(path)) {
            System.out.println("there is no " + path + " to compare the quotes with");
            return;
        }
        String[] sections = Files.readString(path).split("\n## ");
        Set<String> known = new LinkedHashSet<>();
        for (String section : sections) {
            int end = section.indexOf('\n');
            String title = end < 0 ? section : section.substring(0, end);
            if (title.startsWith("Promise ")) {
                int number = Integer.parseInt(title.substring(8, title.indexOf(':')));
                for (String piece : pieces(section.substring(end))) {
                    known.add(number + "|" + piece);
                    if (!quoted.contains(number + "|" + piece)) {
                        fault("no test quotes promise " + number + ": " + piece);
                    }
                }
            } else if (title.equals("Description")) {
                checkDescriptionQuotes(section.replaceAll("\\s+", " "), known);
            }
        }
        for (String quote : quoted) {
            if (!known.contains(quote)) {
                fault("the document does not say " + quote);
            }
        }
    }

    private static void checkDescriptionQuotes(String description, Set<String> known) {
        for (String quote : quoted) {
            if (quote.startsWith("0|") && description.contains(quote.substring(2))) {
                known.add(quote);
            }
        }
    }

    /** The sentences of a promise: those of its text, the lines of its arguments, and the parts of its answers. */
    private static List<String> pieces(String section) {
        List<String> paragraphs = new ArrayList<>();
        for (String paragraph : section.split("\n\\s*\n|\n(?=- )")) {
            String line = paragraph.replaceAll("\\s+", " ").trim();
            if (!line.isEmpty() && !line.startsWith("`")) {
                paragraphs.add(line);
            }
        }
        List<String> pieces = new ArrayList<>();
        for (int i = 0; i < paragraphs.size(); i++) {
            String line = paragraphs.get(i);
            if (line.startsWith("- ")) {
                pieces.add(line.substring(2));
            } else if (i == paragraphs.size() - 1) {
                pieces.addAll(List.of(line.split("; ")));
            } else {
                pieces.addAll(List.of(line.split("(?<=\\.) (?=[A-Z])")));
            }
        }
        return pieces;
    }
}
