import java.util.ArrayDeque;
import java.util.ArrayList;
import java.util.Arrays;
import java.util.Collections;
import java.util.HashMap;
import java.util.HashSet;
import java.util.LinkedHashMap;
import java.util.List;
import java.util.Map;
import java.util.Random;
import java.util.Set;
import java.util.TreeMap;
import java.util.TreeSet;
import java.math.BigInteger;

/**
 * Long pseudorandom runs of calls, each answered by SoficShift and by a slow model that follows the words of the document
 * with other methods: words as texts, sets of edges as sets, minimal automata by reversing twice, Java's own arrays.
 */
public final class ModelTest {
    private static int wrong = 0;

    public static void main(String[] args) {
        for (int run = 0; run < 3000; run++) {
            new Run(run).go();
            if (wrong > 20) {
                break;
            }
        }
        int calls = 0;
        for (int count : Run.tally.values()) {
            calls += count;
        }
        System.out.println(calls + " calls with answers of " + Run.tally.size() + " kinds");
        for (String kind : List.of("feed -3", "compareElements 0", "compareElements 2", "compareElements 1", "setNaN -12", "setNaN -13",
                "cover -5", "cover >0", "memory -1", "memory >0", "forbid -3", "intersect -3", "union -3",
                "writeDifference -1", "writeDifference >0", "writeDifference 0", "checkCounts -1", "isMixing 0", "isMixing >0",
                "writeReset >0", "undo -6", "restore -6", "compareElements 3")) {
            if (Run.tally.getOrDefault(kind, 0) < 20) {
                wrong++;
                System.out.println("too few calls with the answer kind " + kind);
            }
        }
        System.out.println(wrong == 0 ? "all answers are as due" : wrong + " answers are not as due");
        if (wrong != 0) {
            System.exit(1);
        }
    }

    /** One run of calls on a new object and a new model. */
    private static final class Run {
        static final Map<String, Integer> tally = new TreeMap<>();
        final int number;
        final Random random;
        final SoficShift real = new SoficShift();
        final Model model = new Model();
        final StringBuilder log = new StringBuilder();
        int calls = 0;
        boolean bad = false;

        Run(int number) {
            this.number = number;
            this.random = new Random(7919L * number + 1);
        }

        void go() {
            int slotVertices = 1 + random.nextInt(8);
            int slotLetters = 1 + random.nextInt(4);
            // The longest step makes some 150 calls, and an object is good for 512.
            while (calls < 360 && !bad) {
                if (random.nextInt(6) == 0) {
                    slotVertices = 1 + random.nextInt(8);
                    slotLetters = 1 + random.nextInt(4);
                }
                step(slotVertices, slotLetters);
            }
        }

        void due(String call, long got, long want) {
            calls++;
            log.append(call).append(" -> ").append(want).append('\n');
            String name = call.substring(0, call.indexOf('('));
            String kind = name + " " + (want > 0 && !name.equals("compareElements") ? ">0" : want < -50 ? "<-50" : "" + want);
            tally.merge(kind.startsWith("characteristic") || kind.startsWith("checkCounts <") ? name : kind, 1, Integer::sum);
            if (got != want && !bad) {
                bad = true;
                wrong++;
                String text = log.toString();
                System.out.println("run " + number + ": " + call + " answered " + got + ", due is " + want
                        + "\n" + text.substring(Math.max(0, text.length() - 1500)));
            }
        }

        /** Mostly a valid slot. */
        int slot() {
            return random.nextInt(60) == 0 ? (random.nextBoolean() ? -1 : 6) : random.nextInt(6);
        }

        int near(int low, int high) {
            return random.nextInt(25) == 0 ? (random.nextBoolean() ? low - 1 : high + 1)
                    : low + random.nextInt(high - low + 1);
        }

        void feed(String text) {
            for (int i = 0; i < text.length(); i++) {
                int c = text.charAt(i);
                due("feed(" + c + ")", real.feed(c), model.feed(c));
            }
        }

        String graphText(int vertices, int letters) {
            StringBuilder text = new StringBuilder();
            boolean circle = random.nextBoolean();
            int edges = (circle ? vertices : 0) + 1 + random.nextInt(vertices + 2);
            for (int i = 0; i < edges && i < 30; i++) {
                boolean inCircle = circle && i < vertices;
                int source = inCircle ? i : random.nextInt(vertices);
                int target = inCircle ? (i + 1) % vertices : random.nextInt(vertices);
                text.append(i == 0 ? "" : ";").append(source).append((char) ('a' + random.nextInt(letters))).append(target);
            }
            return text.toString();
        }

        String word(int longest) {
            StringBuilder text = new StringBuilder();
            int letters = 1 + random.nextInt(4);
            for (int i = random.nextInt(longest + 1); i > 0; i--) {
                text.append((char) ('a' + random.nextInt(letters)));
            }
            return text.toString();
        }

        String spoilt(String text) {
            if (random.nextInt(20) != 0) {
                return text;
            }
            int at = random.nextInt(text.length() + 1);
            String piece = List.of("e", "8", ";", " ", "a", "`", "/", "0").get(random.nextInt(8));
            return text.substring(0, at) + piece + text.substring(at);
        }

        void step(int vertices, int letters) {
            int s = slot();
            int t = slot();
            switch (random.nextInt(42)) {
                case 0: case 1: case 2: {
                    int v = near(0, 7), a = near(0, 3), x = near(0, 7);
                    due("addEdge(" + s + "," + v + "," + a + "," + x + ")", real.addEdge(s, v, a, x), model.addEdge(s, v, a, x));
                    break;
                }
                case 3: {
                    int v = near(0, 7), a = near(0, 3), x = near(0, 7);
                    for (int tries = 0; tries < 40 && !model.hasEdge(s, v, a, x); tries++) {
                        v = near(0, 7); a = near(0, 3); x = near(0, 7);
                    }
                    due("removeEdge(" + s + "," + v + "," + a + "," + x + ")", real.removeEdge(s, v, a, x), model.removeEdge(s, v, a, x));
                    break;
                }
                case 4: {
                    int v = near(0, 7), a = near(0, 3);
                    due("targets(" + s + "," + v + "," + a + ")", real.targets(s, v, a), model.targets(s, v, a));
                    due("edges(" + s + ")", real.edges(s), model.edges(s));
                    break;
                }
                case 5: {
                    if (random.nextInt(40) == 0) {
                        feed("0a0;".repeat(30) + "1");
                    }
                    int c = near(1, 127);
                    due("feed(" + c + ")", real.feed(c), model.feed(c));
                    break;
                }
                case 6: case 7: case 8: case 9: case 10: case 11: {
                    if (!model.input.isEmpty()) {
                        due("allows(" + t + ")", real.allows(t), model.allows(t));
                    }
                    feed(spoilt(graphText(vertices, letters)));
                    due("parse(" + s + ")", real.parse(s), model.parse(s));
                    break;
                }
                case 12: {
                    int seed = random.nextInt(), n = near(0, 24);
                    due("random(" + s + "," + seed + "," + n + ")", real.random(s, seed, n), model.random(s, seed, n));
                    break;
                }
                case 13:
                    due("essential(" + s + ")", real.essential(s), model.essential(s));
                    due("isIrreducible(" + s + ")", real.isIrreducible(s), model.isIrreducible(s));
                    break;
                case 14:
                    due("period(" + s + ")", real.period(s), model.period(s));
                    break;
                case 15: {
                    int n = near(0, 30);
                    due("words(" + s + "," + n + ")", real.words(s, n), model.words(s, n));
                    break;
                }
                case 16: {
                    int n = near(0, 29), p = near(0, 1);
                    due("growth(" + s + "," + n + "," + p + ")", real.growth(s, n, p), model.growth(s, n, p));
                    break;
                }
                case 17:
                    if (random.nextInt(3) != 0) {
                        feed(spoilt(word(7)));
                    }
                    due("allows(" + s + ")", real.allows(s), model.allows(s));
                    break;
                case 18: {
                    int n = near(0, 30);
                    long count = model.words(s, n);
                    long i = random.nextInt(8) == 0 ? count : random.nextInt(8) == 0 ? random.nextLong()
                            : count <= 0 ? -1 : Math.floorMod(random.nextLong(), count);
                    if (n <= 5) {
                        due("writeWord(" + s + "," + n + "," + i + ")", real.writeWord(s, n, i), model.writeWord(s, n, i));
                        outputs();
                    } else {
                        checkLongWord(s, n, i);
                    }
                    break;
                }
                case 19: {
                    int n = near(1, 6);
                    due("forbidden(" + s + "," + n + ")", real.forbidden(s, n), model.forbidden(s, n));
                    break;
                }
                case 20: {
                    int n = near(1, 6);
                    int count = model.forbidden(s, n);
                    int i = random.nextInt(8) == 0 ? count : random.nextInt(8) == 0 ? random.nextInt() : count <= 0 ? -1 : random.nextInt(count);
                    due("writeForbidden(" + s + "," + n + "," + i + ")", real.writeForbidden(s, n, i), model.writeForbidden(s, n, i));
                    outputs();
                    break;
                }
                case 21: {
                    int n = near(1, 7);
                    due("periodic(" + s + "," + n + ")", real.periodic(s, n), model.periodic(s, n));
                    break;
                }
                case 22: {
                    int n = near(1, 7);
                    due("orbits(" + s + "," + n + ")", real.orbits(s, n), model.orbits(s, n));
                    break;
                }
                case 23:
                    characteristics(s);
                    break;
                case 24: case 25:
                    due("cover(" + s + "," + t + ")", real.cover(s, t), model.cover(s, t));
                    due("writeGraph(" + t + ")", real.writeGraph(t), model.writeGraph(t));
                    outputs();
                    break;
                case 26:
                    due("writeReset(" + s + ")", real.writeReset(s), model.writeReset(s));
                    outputs();
                    break;
                case 27:
                    due("memory(" + s + ")", real.memory(s), model.memory(s));
                    break;
                case 28:
                    due("isMixing(" + s + ")", real.isMixing(s), model.isMixing(s));
                    break;
                case 29:
                    due("writeDifference(" + s + "," + t + ")", real.writeDifference(s, t), model.writeDifference(s, t));
                    outputs();
                    break;
                case 30: {
                    int u = slot();
                    due("union(" + s + "," + t + "," + u + ")", real.union(s, t, u), model.union(s, t, u));
                    break;
                }
                case 31: {
                    int u = slot();
                    due("intersect(" + s + "," + t + "," + u + ")", real.intersect(s, t, u), model.intersect(s, t, u));
                    break;
                }
                case 32:
                    due("reverse(" + s + "," + t + ")", real.reverse(s, t), model.reverse(s, t));
                    break;
                case 33: {
                    int a = near(0, 3), b = near(0, 3);
                    due("relabel(" + s + "," + a + "," + b + "," + t + ")", real.relabel(s, a, b, t), model.relabel(s, a, b, t));
                    break;
                }
                case 34:
                    feed(spoilt(word(7)));
                    due("forbid(" + s + "," + t + ")", real.forbid(s, t), model.forbid(s, t));
                    break;
                case 35:
                    due("writeGraph(" + s + ")", real.writeGraph(s), model.writeGraph(s));
                    outputs();
                    break;
                case 36:
                    due("undo()", real.undo(), model.undo());
                    break;
                case 37:
                    if (random.nextInt(3) == 0) {
                        due("save()", real.save(), model.save());
                    } else if (random.nextInt(3) == 0) {
                        due("restore()", real.restore(), model.restore());
                    }
                    break;
                case 38: case 39:
                    for (int i = 0; i < 12; i++) {
                        arrays();
                    }
                    break;
                default:
                    counts(s);
                    break;
            }
        }

        void outputs() {
            for (int i : new int[] {-1, 0, 1, model.output.length() - 1, model.output.length()}) {
                due("output(" + i + ")", real.output(i), model.output(i));
            }
            for (int i = 2; i < model.output.length() - 1 && calls < 500; i++) {
                due("output(" + i + ")", real.output(i), model.output(i));
            }
        }

        /** A long word cannot be listed by the model, but its number is the number of lower words. */
        void checkLongWord(int s, int n, long i) {
            long count = model.words(s, n);
            boolean exists = count >= 0 && i >= 0 && i < count;
            due("writeWord(" + s + "," + n + "," + i + ")", real.writeWord(s, n, i), count < 0 ? count : exists ? n : -1);
            if (exists && !bad) {
                StringBuilder text = new StringBuilder();
                for (int k = 0; k < n; k++) {
                    text.append((char) real.output(k));
                    calls++;
                }
                due("output(" + n + ")", real.output(n), -1);
                model.output = text.toString();
                due("output(number)", model.lowerWords(s, text.toString()), i);
                due("output(allowed)", model.allowed(s, text.toString()) ? 1 : 0, 1);
            }
        }

        void characteristics(int s) {
            int size = s < 0 || s > 5 ? 0 : Integer.bitCount(model.essential(s));
            int power = near(0, Math.max(1, size));
            if (s < 0 || s > 5 || power < 0 || power > size) {
                due("characteristic(" + s + "," + power + ")", real.characteristic(s, power), Long.MIN_VALUE);
                return;
            }
            BigInteger[] coefficients = new BigInteger[size + 1];
            for (int k = 0; k <= size; k++) {
                coefficients[k] = BigInteger.valueOf(real.characteristic(s, k));
            }
            for (int x = -9; x <= 9; x += 2) {
                BigInteger sum = BigInteger.ZERO;
                for (int k = size; k >= 0; k--) {
                    sum = sum.multiply(BigInteger.valueOf(x)).add(coefficients[k]);
                }
                due("characteristic(" + s + ",all)", sum.longValueExact(), model.determinant(s, x));
            }
        }

        void arrays() {
            int array = near(0, 3);
            int i = random.nextInt(12) == 0 ? -1 : random.nextInt(8), j = random.nextInt(8);
            switch (random.nextInt(9)) {
                case 0: {
                    int type = near(0, 2);
                    int length = random.nextInt(8) == 0 ? 27 + random.nextInt(6) : random.nextInt(20) == 0 ? -1 - random.nextInt(3) : random.nextInt(9);
                    due("createArray(" + array + "," + type + "," + length + ")", real.createArray(array, type, length), model.createArray(array, type, length));
                    break;
                }
                case 1: case 2: case 3: case 4: {
                    int v = random.nextInt(4) == 0 ? random.nextInt(24000) - 12000 : random.nextInt(40) - 20;
                    due("setElement(" + array + "," + i + "," + v + ")", real.setElement(array, i, v), model.setElement(array, i, v));
                    break;
                }
                case 5:
                    due("setNaN(" + array + "," + i + ")", real.setNaN(array, i), model.setNaN(array, i));
                    break;
                default:
                    due("compareElements(" + array + "," + i + "," + j + ")", real.compareElements(array, i, j), model.compareElements(array, i, j));
                    break;
            }
        }

        /** Fills an array with counts, perhaps one of them wrong, and checks it. */
        void counts(int s) {
            int array = random.nextInt(4), type = random.nextInt(3), length = random.nextInt(6);
            due("checkCounts(" + array + "," + s + ")", real.checkCounts(array, s), model.checkCounts(array, s));
            due("createArray(" + array + "," + type + "," + length + ")", real.createArray(array, type, length), model.createArray(array, type, length));
            for (int i = 0; i < length; i++) {
                long count = Math.max(0, model.words(s, i)) * (type == 2 ? 8 : 1);
                int v = (int) Math.min(9999, count) + (random.nextInt(15) == 0 ? 1 : 0) + (type == 0 && random.nextInt(4) == 0 ? 256 : 0);
                v = Math.min(v, 9999);
                due("setElement(" + array + "," + i + "," + v + ")", real.setElement(array, i, v), model.setElement(array, i, v));
            }
            if (type == 2 && length > 0 && random.nextInt(8) == 0) {
                due("setNaN(" + array + ",0)", real.setNaN(array, 0), model.setNaN(array, 0));
            }
            due("checkCounts(" + array + "," + s + ")", real.checkCounts(array, s), model.checkCounts(array, s));
        }
    }

    /** A graph of any vertices, as a set of edges; a vertex is any list of numbers. */
    private static final class Edges {
        final Set<List<List<Integer>>> all = new HashSet<>();

        void add(List<Integer> source, int letter, List<Integer> target) {
            all.add(List.of(source, List.of(letter), target));
        }

        /** The vertices between a path of many edges that ends there and one that starts there. */
        Set<List<Integer>> essential() {
            Set<List<Integer>> vertices = new HashSet<>();
            for (List<List<Integer>> e : all) {
                vertices.add(e.get(0));
                vertices.add(e.get(2));
            }
            Set<List<Integer>> starting = new HashSet<>(vertices);
            Set<List<Integer>> ending = new HashSet<>(vertices);
            for (int i = 0; i <= vertices.size(); i++) {
                Set<List<Integer>> starts = new HashSet<>();
                Set<List<Integer>> ends = new HashSet<>();
                for (List<List<Integer>> e : all) {
                    if (starting.contains(e.get(2))) {
                        starts.add(e.get(0));
                    }
                    if (ending.contains(e.get(0))) {
                        ends.add(e.get(2));
                    }
                }
                starting = starts;
                ending = ends;
            }
            starting.retainAll(ending);
            return starting;
        }

        List<List<Integer>> sorted() {
            List<List<Integer>> list = new ArrayList<>(essential());
            list.sort((p, q) -> {
                for (int i = 0; i < p.size(); i++) {
                    if (!p.get(i).equals(q.get(i))) {
                        return p.get(i) - q.get(i);
                    }
                }
                return 0;
            });
            return list;
        }

        /** The essential part with numbers for its vertices. */
        TreeSet<String> numbered() {
            List<List<Integer>> order = sorted();
            TreeSet<String> result = new TreeSet<>();
            for (List<List<Integer>> e : all) {
                int from = order.indexOf(e.get(0)), to = order.indexOf(e.get(2));
                if (from >= 0 && to >= 0) {
                    result.add("" + from + (char) ('a' + e.get(1).get(0)) + to);
                }
            }
            return result;
        }
    }

    private static final class Model {
        List<TreeSet<String>> graphs = new ArrayList<>();
        List<TreeSet<String>> saved = null;
        ArrayDeque<Object[]> history = new ArrayDeque<>();
        String input = "";
        String output = "";
        Object[] arrays = new Object[4];

        Model() {
            for (int i = 0; i < 6; i++) {
                graphs.add(new TreeSet<>());
            }
        }

        static boolean bad(int value, int low, int high) {
            return value < low || value > high;
        }

        static String edge(int v, int a, int x) {
            return "" + v + (char) ('a' + a) + x;
        }

        boolean hasEdge(int s, int v, int a, int x) {
            return !bad(s, 0, 5) && graphs.get(s).contains(edge(v, a, x));
        }

        void store(int s, TreeSet<String> graph) {
            history.addLast(new Object[] {s, graphs.get(s)});
            if (history.size() > 10) {
                history.removeFirst();
            }
            graphs.set(s, graph);
        }

        int addEdge(int s, int v, int a, int x) {
            if (bad(s, 0, 5) || bad(v, 0, 7) || bad(a, 0, 3) || bad(x, 0, 7)) {
                return -2;
            }
            TreeSet<String> graph = new TreeSet<>(graphs.get(s));
            graph.add(edge(v, a, x));
            store(s, graph);
            return graph.size();
        }

        int removeEdge(int s, int v, int a, int x) {
            if (bad(s, 0, 5) || bad(v, 0, 7) || bad(a, 0, 3) || bad(x, 0, 7)) {
                return -2;
            }
            if (!hasEdge(s, v, a, x)) {
                return -1;
            }
            TreeSet<String> graph = new TreeSet<>(graphs.get(s));
            graph.remove(edge(v, a, x));
            store(s, graph);
            return graph.size();
        }

        int targets(int s, int v, int a) {
            if (bad(s, 0, 5) || bad(v, 0, 7) || bad(a, 0, 3)) {
                return -2;
            }
            int set = 0;
            for (int x = 0; x < 8; x++) {
                set += hasEdge(s, v, a, x) ? 1 << x : 0;
            }
            return set;
        }

        int edges(int s) {
            return bad(s, 0, 5) ? -2 : graphs.get(s).size();
        }

        int feed(int c) {
            if (bad(c, 1, 127)) {
                return -2;
            }
            if (input.length() == 120) {
                return -3;
            }
            input += (char) c;
            return input.length();
        }

        int parse(int s) {
            if (bad(s, 0, 5)) {
                return -2;
            }
            String text = input;
            input = "";
            // The longest beginning that can still become a graph ends before the error.
            for (int length = text.length(); length >= 0; length--) {
                String start = text.substring(0, length);
                if (start.matches("([0-7][a-d][0-7];)*([0-7]([a-d]([0-7])?)?)?")) {
                    if (length < text.length() || !start.matches("[0-7][a-d][0-7](;[0-7][a-d][0-7])*")) {
                        return -100 - length;
                    }
                    break;
                }
            }
            TreeSet<String> graph = new TreeSet<>(Arrays.asList(text.split(";")));
            store(s, graph);
            return graph.size();
        }

        int random(int s, int seed, int n) {
            if (bad(s, 0, 5) || bad(n, 0, 24)) {
                return -2;
            }
            TreeSet<String> graph = new TreeSet<>();
            long z = seed & 0xffffffffL;
            for (int i = 0; i < n; i++) {
                long[] part = new long[3];
                for (int k = 0; k < 3; k++) {
                    z = (z * 1103515245L + 12345L) & 0xffffffffL;
                    part[k] = z / 65536;
                }
                graph.add(edge((int) (part[0] % 8), (int) (part[1] % 4), (int) (part[2] % 8)));
            }
            store(s, graph);
            return graph.size();
        }

        Edges edgesOf(TreeSet<String> graph) {
            Edges result = new Edges();
            for (String e : graph) {
                result.add(List.of(e.charAt(0) - '0'), e.charAt(1) - 'a', List.of(e.charAt(2) - '0'));
            }
            return result;
        }

        TreeSet<Integer> essentialSet(TreeSet<String> graph) {
            TreeSet<Integer> set = new TreeSet<>();
            for (List<Integer> v : edgesOf(graph).essential()) {
                set.add(v.get(0));
            }
            return set;
        }

        int essential(int s) {
            if (bad(s, 0, 5)) {
                return -2;
            }
            int set = 0;
            for (int v : essentialSet(graphs.get(s))) {
                set |= 1 << v;
            }
            return set;
        }

        /** The adjacency of the essential part: numbers of edges. */
        int[][] adjacency(TreeSet<String> graph) {
            Set<Integer> set = essentialSet(graph);
            int[][] matrix = new int[8][8];
            for (String e : graph) {
                int v = e.charAt(0) - '0', x = e.charAt(2) - '0';
                if (set.contains(v) && set.contains(x)) {
                    matrix[v][x]++;
                }
            }
            return matrix;
        }

        boolean irreducible(TreeSet<String> graph) {
            Set<Integer> set = essentialSet(graph);
            int[][] reach = adjacency(graph);
            for (int k = 0; k < 8; k++) {
                for (int i = 0; i < 8; i++) {
                    for (int j = 0; j < 8; j++) {
                        if (reach[i][k] > 0 && reach[k][j] > 0) {
                            reach[i][j] = 1;
                        }
                    }
                }
            }
            for (int u : set) {
                for (int v : set) {
                    if (u != v && reach[u][v] == 0) {
                        return false;
                    }
                }
            }
            return !set.isEmpty();
        }

        int isIrreducible(int s) {
            return bad(s, 0, 5) ? -2 : irreducible(graphs.get(s)) ? 1 : 0;
        }

        /** All lengths of closed walks up to 20 enter, by boolean powers of the matrix. */
        int periodOf(TreeSet<String> graph) {
            int[][] matrix = adjacency(graph);
            boolean[][] power = new boolean[8][8];
            for (int v = 0; v < 8; v++) {
                power[v][v] = true;
            }
            BigInteger divisor = BigInteger.ZERO;
            for (int length = 1; length <= 20; length++) {
                boolean[][] next = new boolean[8][8];
                for (int u = 0; u < 8; u++) {
                    for (int v = 0; v < 8; v++) {
                        for (int w = 0; w < 8; w++) {
                            next[u][v] |= power[u][w] && matrix[w][v] > 0;
                        }
                    }
                }
                power = next;
                for (int v = 0; v < 8; v++) {
                    if (power[v][v]) {
                        divisor = divisor.gcd(BigInteger.valueOf(length));
                    }
                }
            }
            return divisor.intValueExact();
        }

        int period(int s) {
            return bad(s, 0, 5) ? -2 : periodOf(graphs.get(s));
        }

        /** The ends of the paths with a label, in the essential part. */
        Set<Integer> ends(TreeSet<String> graph, Set<Integer> from, char letter) {
            Set<Integer> core = essentialSet(graph);
            Set<Integer> to = new TreeSet<>();
            for (String e : graph) {
                if (e.charAt(1) == letter && from.contains(e.charAt(0) - '0') && core.contains(e.charAt(2) - '0')) {
                    to.add(e.charAt(2) - '0');
                }
            }
            return to;
        }

        boolean allowed(int s, String word) {
            Set<Integer> at = essentialSet(graphs.get(s));
            for (char c : word.toCharArray()) {
                at = ends(graphs.get(s), at, c);
            }
            return !at.isEmpty();
        }

        /** For each set of ends, the number of words of a length with these ends. */
        Map<Set<Integer>, Long> endsOfLength(TreeSet<String> graph, Set<Integer> start, int n) {
            Map<String, Set<Integer>> known = new HashMap<>();
            Map<Set<Integer>, Long> now = new HashMap<>();
            if (!start.isEmpty()) {
                now.put(start, 1L);
            }
            for (int i = 0; i < n; i++) {
                Map<Set<Integer>, Long> next = new HashMap<>();
                for (Map.Entry<Set<Integer>, Long> entry : now.entrySet()) {
                    for (char c = 'a'; c <= 'd'; c++) {
                        char letter = c;
                        Set<Integer> to = known.computeIfAbsent(entry.getKey().toString() + c, k -> ends(graph, entry.getKey(), letter));
                        if (!to.isEmpty()) {
                            next.merge(to, entry.getValue(), Long::sum);
                        }
                    }
                }
                now = next;
            }
            return now;
        }

        long wordsFrom(TreeSet<String> graph, Set<Integer> start, int n) {
            long sum = 0;
            for (long count : endsOfLength(graph, start, n).values()) {
                sum += count;
            }
            return sum;
        }

        long words(int s, int n) {
            if (bad(s, 0, 5) || bad(n, 0, 30)) {
                return -2;
            }
            return wordsFrom(graphs.get(s), essentialSet(graphs.get(s)), n);
        }

        long growth(int s, int n, int part) {
            if (bad(s, 0, 5) || bad(n, 0, 29) || bad(part, 0, 1)) {
                return -2;
            }
            BigInteger top = BigInteger.valueOf(words(s, n + 1)), bottom = BigInteger.valueOf(words(s, n));
            if (bottom.signum() == 0) {
                return part;
            }
            return (part == 0 ? top : bottom).divide(top.gcd(bottom)).longValueExact();
        }

        long lowerWords(int s, String word) {
            long sum = 0;
            Set<Integer> at = essentialSet(graphs.get(s));
            for (int i = 0; i < word.length(); i++) {
                for (char c = 'a'; c < word.charAt(i); c++) {
                    sum += wordsFrom(graphs.get(s), ends(graphs.get(s), at, c), word.length() - i - 1);
                }
                at = ends(graphs.get(s), at, word.charAt(i));
            }
            return sum;
        }

        int wordError(String text) {
            for (int i = 0; i < text.length(); i++) {
                if ("abcd".indexOf(text.charAt(i)) < 0) {
                    return i;
                }
            }
            return -1;
        }

        int allows(int s) {
            if (bad(s, 0, 5)) {
                return -2;
            }
            String text = input;
            input = "";
            int error = wordError(text);
            return error >= 0 ? -100 - error : allowed(s, text) ? 1 : 0;
        }

        /** All allowed words of a length in lexicographic order. */
        List<String> list(int s, int n) {
            TreeSet<String> graph = graphs.get(s);
            Map<String, Set<Integer>> now = new LinkedHashMap<>();
            if (!essentialSet(graph).isEmpty()) {
                now.put("", essentialSet(graph));
            }
            Map<String, Set<Integer>> known = new HashMap<>();
            for (int i = 0; i < n; i++) {
                Map<String, Set<Integer>> next = new LinkedHashMap<>();
                for (String word : now.keySet()) {
                    for (char c = 'a'; c <= 'd'; c++) {
                        char letter = c;
                        Set<Integer> from = now.get(word);
                        Set<Integer> to = known.computeIfAbsent(from.toString() + c, k -> ends(graph, from, letter));
                        if (!to.isEmpty()) {
                            next.put(word + c, to);
                        }
                    }
                }
                now = next;
            }
            return new ArrayList<>(now.keySet());
        }

        int writeWord(int s, int n, long i) {
            if (bad(s, 0, 5) || bad(n, 0, 30)) {
                return -2;
            }
            List<String> list = list(s, n);
            if (i < 0 || i >= list.size()) {
                return -1;
            }
            output = list.get((int) i);
            return n;
        }

        List<String> forbiddenList(int s, int n) {
            Set<String> longer = new HashSet<>(list(s, n));
            Set<String> shorter = new HashSet<>(list(s, n - 1));
            List<String> result = new ArrayList<>();
            for (String word : list(s, n - 1)) {
                for (char c = 'a'; c <= 'd'; c++) {
                    String whole = word + c;
                    if (!longer.contains(whole) && shorter.contains(whole.substring(1))) {
                        result.add(whole);
                    }
                }
            }
            Collections.sort(result);
            return result;
        }

        int forbidden(int s, int n) {
            return bad(s, 0, 5) || bad(n, 1, 6) ? -2 : forbiddenList(s, n).size();
        }

        int writeForbidden(int s, int n, int i) {
            if (bad(s, 0, 5) || bad(n, 1, 6)) {
                return -2;
            }
            List<String> list = forbiddenList(s, n);
            if (i < 0 || i >= list.size()) {
                return -1;
            }
            output = list.get(i);
            return n;
        }

        /** Nine repetitions along eight vertices pass a vertex twice between repetitions. */
        List<String> periodicList(int s, int n) {
            List<String> result = new ArrayList<>();
            TreeSet<String> graph = graphs.get(s);
            Map<String, Set<Integer>> known = new HashMap<>();
            for (String word : list(s, n)) {
                Set<Integer> at = essentialSet(graph);
                for (int i = 0; i < 9 * n; i++) {
                    char c = word.charAt(i % n);
                    Set<Integer> from = at;
                    at = known.computeIfAbsent(from.toString() + c, k -> ends(graph, from, c));
                }
                if (!at.isEmpty()) {
                    result.add(word);
                }
            }
            return result;
        }

        int periodic(int s, int n) {
            return bad(s, 0, 5) || bad(n, 1, 7) ? -2 : periodicList(s, n).size();
        }

        int orbits(int s, int n) {
            if (bad(s, 0, 5) || bad(n, 1, 7)) {
                return -2;
            }
            int count = 0;
            for (String word : periodicList(s, n)) {
                count += (word + word).indexOf(word, 1) == n ? 1 : 0;
            }
            return count / n;
        }

        /** The determinant of x times the identity minus the adjacency matrix, by expansion along rows. */
        long determinant(int s, int x) {
            List<Integer> core = new ArrayList<>(essentialSet(graphs.get(s)));
            int[][] matrix = adjacency(graphs.get(s));
            long[][] m = new long[core.size()][core.size()];
            for (int i = 0; i < core.size(); i++) {
                for (int j = 0; j < core.size(); j++) {
                    m[i][j] = (i == j ? x : 0) - matrix[core.get(i)][core.get(j)];
                }
            }
            Map<Integer, Long> bySet = new HashMap<>();
            bySet.put(0, 1L);
            for (int row = 0; row < m.length; row++) {
                Map<Integer, Long> next = new HashMap<>();
                for (int used : bySet.keySet()) {
                    for (int j = 0; j < m.length; j++) {
                        if ((used >> j & 1) == 0) {
                            int sign = Integer.bitCount(used >> j) % 2 == 0 ? 1 : -1;
                            next.merge(used | 1 << j, sign * bySet.get(used) * m[row][j], Long::sum);
                        }
                    }
                }
                bySet = next;
            }
            return bySet.values().iterator().next();
        }

        /** A deterministic automaton, with every state accepting; state 0 is the start. */
        static final class Dfa {
            final List<int[]> next = new ArrayList<>();
        }

        /** An automaton with sets of starts and ends, made deterministic. */
        static final class Nfa {
            final Set<Integer> starts = new TreeSet<>();
            final Set<Integer> finals = new TreeSet<>();
            final Set<List<Integer>> moves = new HashSet<>();

            Nfa reversedAndDetermined() {
                Map<Integer, Map<Integer, List<Integer>>> back = new HashMap<>();
                for (List<Integer> m : moves) {
                    back.computeIfAbsent(m.get(2), k -> new HashMap<>()).computeIfAbsent(m.get(1), k -> new ArrayList<>()).add(m.get(0));
                }
                Nfa result = new Nfa();
                Map<Set<Integer>, Integer> numbers = new HashMap<>();
                List<Set<Integer>> order = new ArrayList<>();
                if (!finals.isEmpty()) {
                    numbers.put(new TreeSet<>(finals), 0);
                    order.add(new TreeSet<>(finals));
                    result.starts.add(0);
                }
                for (int i = 0; i < order.size(); i++) {
                    if (!Collections.disjoint(order.get(i), starts)) {
                        result.finals.add(i);
                    }
                    for (int a = 0; a < 4; a++) {
                        Set<Integer> to = new TreeSet<>();
                        for (int v : order.get(i)) {
                            to.addAll(back.getOrDefault(v, Map.of()).getOrDefault(a, List.of()));
                        }
                        if (!to.isEmpty()) {
                            if (!numbers.containsKey(to)) {
                                numbers.put(to, order.size());
                                order.add(to);
                            }
                            result.moves.add(List.of(i, a, numbers.get(to)));
                        }
                    }
                }
                return result;
            }
        }

        /** The minimal deterministic automaton of the allowed words: reversed and determined, twice. */
        Dfa minimal(TreeSet<String> graph) {
            Nfa nfa = new Nfa();
            Set<Integer> core = essentialSet(graph);
            nfa.starts.addAll(core);
            nfa.finals.addAll(core);
            for (String e : graph) {
                int v = e.charAt(0) - '0', x = e.charAt(2) - '0';
                if (core.contains(v) && core.contains(x)) {
                    nfa.moves.add(List.of(v, e.charAt(1) - 'a', x));
                }
            }
            Nfa twice = nfa.reversedAndDetermined().reversedAndDetermined();
            Dfa dfa = new Dfa();
            int size = 1;
            for (List<Integer> m : twice.moves) {
                size = Math.max(size, Math.max(m.get(0), m.get(2)) + 1);
            }
            for (int i = 0; i < size; i++) {
                dfa.next.add(new int[] {-1, -1, -1, -1});
            }
            for (List<Integer> m : twice.moves) {
                dfa.next.get(m.get(0))[m.get(1)] = m.get(2);
            }
            return dfa;
        }

        Set<Integer> reach(Dfa dfa, int from) {
            Set<Integer> seen = new TreeSet<>(List.of(from));
            ArrayDeque<Integer> todo = new ArrayDeque<>(seen);
            while (!todo.isEmpty()) {
                for (int to : dfa.next.get(todo.remove())) {
                    if (to >= 0 && seen.add(to)) {
                        todo.add(to);
                    }
                }
            }
            return seen;
        }

        String reset;

        /** The cover with its numbers, or null if it has more than 8 vertices; the reset word is left in its field. */
        TreeSet<String> coverOf(TreeSet<String> graph) {
            Dfa dfa = minimal(graph);
            Set<Integer> last = reach(dfa, 0);
            for (int state : new ArrayList<>(last)) {
                Set<Integer> from = reach(dfa, state);
                if (from.size() < last.size()) {
                    last = from;
                }
            }
            if (last.size() > 8) {
                return null;
            }
            int zero = findReset(dfa, last);
            List<Integer> order = new ArrayList<>(List.of(zero));
            for (int i = 0; i < order.size(); i++) {
                for (int to : dfa.next.get(order.get(i))) {
                    if (to >= 0 && !order.contains(to)) {
                        order.add(to);
                    }
                }
            }
            TreeSet<String> result = new TreeSet<>();
            for (int i = 0; i < order.size(); i++) {
                for (int a = 0; a < 4; a++) {
                    int to = dfa.next.get(order.get(i))[a];
                    if (to >= 0) {
                        result.add(edge(i, a, order.indexOf(to)));
                    }
                }
            }
            return result;
        }

        /** Tries the words in order of length, then lexicographically, but no two words with the same ends. */
        int findReset(Dfa dfa, Set<Integer> vertices) {
            Map<Set<Integer>, String> words = new LinkedHashMap<>();
            words.put(vertices, "");
            Map<Set<Integer>, String> layer = words;
            Set<Set<Integer>> seen = new HashSet<>(words.keySet());
            while (true) {
                Map<Set<Integer>, String> next = new LinkedHashMap<>();
                for (Set<Integer> set : layer.keySet()) {
                    if (set.size() == 1) {
                        reset = layer.get(set);
                        return set.iterator().next();
                    }
                }
                for (Set<Integer> set : layer.keySet()) {
                    for (int a = 0; a < 4; a++) {
                        Set<Integer> to = new TreeSet<>();
                        for (int v : set) {
                            if (dfa.next.get(v)[a] >= 0) {
                                to.add(dfa.next.get(v)[a]);
                            }
                        }
                        if (!to.isEmpty() && seen.add(to)) {
                            next.put(to, layer.get(set) + (char) ('a' + a));
                        }
                    }
                }
                layer = next;
            }
        }

        int coverError(int s) {
            if (bad(s, 0, 5)) {
                return -2;
            }
            if (!irreducible(graphs.get(s))) {
                return -4;
            }
            return coverOf(graphs.get(s)) == null ? -5 : 0;
        }

        int cover(int s, int t) {
            if (bad(s, 0, 5) || bad(t, 0, 5)) {
                return -2;
            }
            if (coverError(s) != 0) {
                return coverError(s);
            }
            TreeSet<String> graph = coverOf(graphs.get(s));
            store(t, graph);
            return essentialSet(graph).size();
        }

        int writeReset(int s) {
            int error = coverError(s);
            if (error == 0) {
                output = reset;
                return reset.length();
            }
            return error;
        }

        int memory(int s) {
            int error = coverError(s);
            if (error != 0) {
                return error;
            }
            TreeSet<String> graph = coverOf(graphs.get(s));
            Set<Set<Integer>> now = new HashSet<>(List.of(essentialSet(graph)));
            for (int m = 0; m <= 256; m++) {
                boolean all = true;
                Set<Set<Integer>> next = new HashSet<>();
                for (Set<Integer> set : now) {
                    all &= set.size() == 1;
                    for (char c = 'a'; c <= 'd'; c++) {
                        Set<Integer> to = new TreeSet<>();
                        for (String e : graph) {
                            if (e.charAt(1) == c && set.contains(e.charAt(0) - '0')) {
                                to.add(e.charAt(2) - '0');
                            }
                        }
                        if (!to.isEmpty()) {
                            next.add(to);
                        }
                    }
                }
                if (all) {
                    return m;
                }
                now = next;
            }
            return -1;
        }

        int isMixing(int s) {
            int error = coverError(s);
            return error != 0 ? error : periodOf(coverOf(graphs.get(s))) == 1 ? 1 : 0;
        }

        int writeDifference(int first, int second) {
            if (bad(first, 0, 5) || bad(second, 0, 5)) {
                return -2;
            }
            TreeSet<String> one = graphs.get(first), two = graphs.get(second);
            Map<List<Set<Integer>>, String> words = new HashMap<>();
            ArrayDeque<List<Set<Integer>>> todo = new ArrayDeque<>();
            todo.add(List.of(essentialSet(one), essentialSet(two)));
            words.put(todo.peek(), "");
            Map<String, Set<Integer>> known = new HashMap<>();
            while (!todo.isEmpty()) {
                List<Set<Integer>> pair = todo.remove();
                if (pair.get(0).isEmpty() != pair.get(1).isEmpty()) {
                    output = words.get(pair);
                    return output.length();
                }
                for (char c = 'a'; c <= 'd'; c++) {
                    char letter = c;
                    List<Set<Integer>> to = List.of(known.computeIfAbsent("1" + pair.get(0) + c, k -> ends(one, pair.get(0), letter)),
                            known.computeIfAbsent("2" + pair.get(1) + c, k -> ends(two, pair.get(1), letter)));
                    if (words.putIfAbsent(to, words.get(pair) + c) == null) {
                        todo.add(to);
                    }
                }
            }
            return -1;
        }

        int storeNumbered(Edges graph, int target) {
            int size = graph.essential().size();
            if (size > 8) {
                return -3;
            }
            store(target, graph.numbered());
            return size;
        }

        int union(int first, int second, int target) {
            if (bad(first, 0, 5) || bad(second, 0, 5) || bad(target, 0, 5)) {
                return -2;
            }
            Edges result = new Edges();
            for (int which = 0; which < 2; which++) {
                for (String e : graphs.get(which == 0 ? first : second)) {
                    result.add(List.of(which, e.charAt(0) - '0'), e.charAt(1) - 'a', List.of(which, e.charAt(2) - '0'));
                }
            }
            return storeNumbered(result, target);
        }

        int intersect(int first, int second, int target) {
            if (bad(first, 0, 5) || bad(second, 0, 5) || bad(target, 0, 5)) {
                return -2;
            }
            Edges result = new Edges();
            for (String e : graphs.get(first)) {
                for (String f : graphs.get(second)) {
                    if (e.charAt(1) == f.charAt(1)) {
                        result.add(List.of(e.charAt(0) - '0', f.charAt(0) - '0'), e.charAt(1) - 'a', List.of(e.charAt(2) - '0', f.charAt(2) - '0'));
                    }
                }
            }
            return storeNumbered(result, target);
        }

        int reverse(int s, int t) {
            if (bad(s, 0, 5) || bad(t, 0, 5)) {
                return -2;
            }
            TreeSet<String> graph = new TreeSet<>();
            for (String e : graphs.get(s)) {
                graph.add(new StringBuilder(e).reverse().toString());
            }
            store(t, graph);
            return graph.size();
        }

        int relabel(int s, int from, int to, int t) {
            if (bad(s, 0, 5) || bad(from, 0, 3) || bad(to, 0, 3) || bad(t, 0, 5)) {
                return -2;
            }
            TreeSet<String> graph = new TreeSet<>();
            for (String e : graphs.get(s)) {
                graph.add(e.replace((char) ('a' + from), (char) ('a' + to)));
            }
            store(t, graph);
            return graph.size();
        }

        int forbid(int s, int t) {
            if (bad(s, 0, 5) || bad(t, 0, 5)) {
                return -2;
            }
            String w = input;
            input = "";
            if (wordError(w) >= 0) {
                return -100 - wordError(w);
            }
            if (bad(w.length(), 1, 6)) {
                return -2;
            }
            Edges result = new Edges();
            for (String e : graphs.get(s)) {
                for (int k = 0; k < w.length(); k++) {
                    String read = w.substring(0, k) + e.charAt(1);
                    while (!w.startsWith(read)) {
                        read = read.substring(1);
                    }
                    if (read.length() < w.length()) {
                        result.add(List.of(e.charAt(0) - '0', k), e.charAt(1) - 'a', List.of(e.charAt(2) - '0', read.length()));
                    }
                }
            }
            return storeNumbered(result, t);
        }

        int writeGraph(int s) {
            if (bad(s, 0, 5)) {
                return -2;
            }
            output = String.join(";", graphs.get(s));
            return output.length();
        }

        int output(int i) {
            return i < 0 || i >= output.length() ? -1 : output.charAt(i);
        }

        int undo() {
            if (history.isEmpty()) {
                return -6;
            }
            Object[] latest = history.removeLast();
            @SuppressWarnings("unchecked")
            TreeSet<String> graph = (TreeSet<String>) latest[1];
            graphs.set((int) latest[0], graph);
            return (int) latest[0];
        }

        int total() {
            int sum = 0;
            for (TreeSet<String> graph : graphs) {
                sum += graph.size();
            }
            return sum;
        }

        int save() {
            saved = new ArrayList<>(graphs);
            return total();
        }

        int restore() {
            if (saved == null) {
                return -6;
            }
            graphs = new ArrayList<>(saved);
            history.clear();
            return total();
        }

        int createArray(int array, int type, int length) {
            if (bad(array, 0, 3) || bad(type, 0, 2) || length > 30) {
                return -2;
            }
            if (length < 0) {
                return -14;
            }
            arrays[array] = type == 0 ? new byte[length] : type == 1 ? new char[length] : (Object) new float[length];
            return 1;
        }

        int length(int array) {
            return java.lang.reflect.Array.getLength(arrays[array]);
        }

        int setElement(int array, int i, int v) {
            if (bad(array, 0, 3) || bad(v, -9999, 9999)) {
                return -2;
            }
            if (arrays[array] == null) {
                return -11;
            }
            if (bad(i, 0, length(array) - 1)) {
                return -13;
            }
            if (arrays[array] instanceof byte[] bytes) {
                bytes[i] = (byte) v;
            } else if (arrays[array] instanceof char[] chars) {
                chars[i] = (char) v;
            } else if (arrays[array] instanceof float[] floats) {
                floats[i] = v / 8f;
            }
            return 1;
        }

        int setNaN(int array, int i) {
            if (bad(array, 0, 3)) {
                return -2;
            }
            if (arrays[array] == null) {
                return -11;
            }
            if (!(arrays[array] instanceof float[])) {
                return -12;
            }
            if (bad(i, 0, length(array) - 1)) {
                return -13;
            }
            ((float[]) arrays[array])[i] = Float.NaN;
            return 1;
        }

        float element(int array, int i) {
            return arrays[array] instanceof byte[] bytes ? bytes[i] : arrays[array] instanceof char[] chars ? chars[i] : ((float[]) arrays[array])[i];
        }

        int compareElements(int array, int i, int j) {
            if (bad(array, 0, 3)) {
                return -2;
            }
            if (arrays[array] == null) {
                return -11;
            }
            if (bad(i, 0, length(array) - 1) || bad(j, 0, length(array) - 1)) {
                return -13;
            }
            float one = element(array, i), two = element(array, j);
            return one < two ? 0 : one == two ? 1 : one > two ? 2 : 3;
        }

        int checkCounts(int array, int s) {
            if (bad(array, 0, 3) || bad(s, 0, 5)) {
                return -2;
            }
            if (arrays[array] == null) {
                return -11;
            }
            for (int i = 0; i < length(array); i++) {
                long count = words(s, i);
                boolean holds = arrays[array] instanceof byte[] bytes ? bytes[i] == (byte) count
                        : arrays[array] instanceof char[] chars ? chars[i] == (char) count : ((float[]) arrays[array])[i] == (float) count;
                if (!holds) {
                    return i;
                }
            }
            return -1;
        }
    }
}
