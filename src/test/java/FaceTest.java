import java.io.IOException;
import java.lang.management.ManagementFactory;
import java.lang.reflect.Constructor;
import java.lang.reflect.Field;
import java.lang.reflect.Method;
import java.lang.reflect.Modifier;
import java.nio.file.Files;
import java.nio.file.Path;
import java.util.ArrayList;
import java.util.Arrays;
import java.util.List;
import java.util.Set;
import java.util.TreeSet;
import java.util.regex.Matcher;
import java.util.regex.Pattern;

/** The public face of the class, what its calls allocate, and the rules of the language that can be read off its source. */
public final class FaceTest {
    private static final String[] METHODS = {
        "int addEdge(int,int,int,int)", "int removeEdge(int,int,int,int)", "int targets(int,int,int)", "int edges(int)",
        "int feed(int)", "int parse(int)", "int random(int,int,int)", "int essential(int)", "int isIrreducible(int)",
        "int period(int)", "long words(int,int)", "long growth(int,int,int)", "int allows(int)", "int writeWord(int,int,long)",
        "int forbidden(int,int)", "int writeForbidden(int,int,int)", "int periodic(int,int)", "int orbits(int,int)",
        "long characteristic(int,int)", "int cover(int,int)", "int writeReset(int)", "int memory(int)", "int isMixing(int)",
        "int writeDifference(int,int)", "int union(int,int,int)", "int intersect(int,int,int)", "int reverse(int,int)",
        "int relabel(int,int,int,int)", "int forbid(int,int)", "int writeGraph(int)", "int output(int)", "int undo()",
        "int save()", "int restore()", "int createArray(int,int,int)", "int setElement(int,int,int)", "int setNaN(int,int)",
        "int compareElements(int,int,int)", "int checkCounts(int,int)"};
    private static final String[] CONSTANTS = {"int NONE", "int BAD_ARGUMENT", "int FULL", "int REDUCIBLE", "int TOO_LARGE",
        "int NOTHING_SAVED", "long NO_NUMBER"};

    private static int wrong = 0;

    public static void main(String[] args) throws IOException {
        face();
        insides();
        allocations();
        source(Path.of("src/main/java/SoficShift.java"));
        System.out.println(wrong == 0 ? "the face is as due" : wrong + " faults of the face");
        if (wrong != 0) {
            System.exit(1);
        }
    }

    private static void check(boolean holds, String fault) {
        if (!holds) {
            wrong++;
            System.out.println(fault);
        }
    }

    private static String signature(Method method) {
        List<String> types = new ArrayList<>();
        for (Class<?> type : method.getParameterTypes()) {
            types.add(type.getName());
        }
        return method.getReturnType().getName() + " " + method.getName() + "(" + String.join(",", types) + ")";
    }

    private static void face() {
        Class<?> c = SoficShift.class;
        check(Modifier.isPublic(c.getModifiers()) && Modifier.isFinal(c.getModifiers()), "the class is not public and final");
        check(c.getPackageName().isEmpty() && c.getSuperclass() == Object.class && c.getInterfaces().length == 0, "class line");
        Set<String> methods = new TreeSet<>();
        for (Method method : c.getDeclaredMethods()) {
            if (!Modifier.isPrivate(method.getModifiers())) {
                check(Modifier.isPublic(method.getModifiers()) && !Modifier.isStatic(method.getModifiers()), "not public: " + method);
                methods.add(signature(method));
            }
        }
        check(methods.equals(new TreeSet<>(Arrays.asList(METHODS))), "methods: " + methods);
        Set<String> constants = new TreeSet<>();
        for (Field field : c.getDeclaredFields()) {
            if (!Modifier.isPrivate(field.getModifiers())) {
                int both = Modifier.STATIC | Modifier.FINAL | Modifier.PUBLIC;
                check((field.getModifiers() & both) == both, "not a constant: " + field);
                constants.add(field.getType().getName() + " " + field.getName());
            }
        }
        check(constants.equals(new TreeSet<>(Arrays.asList(CONSTANTS))), "constants: " + constants);
        Constructor<?>[] constructors = c.getDeclaredConstructors();
        check(constructors.length == 1 && Modifier.isPublic(constructors[0].getModifiers())
                && constructors[0].getParameterCount() == 0, "constructors: " + Arrays.toString(constructors));
    }

    private static void insides() {
        Set<String> faceNames = new TreeSet<>();
        for (String method : METHODS) {
            faceNames.add(method.substring(method.indexOf(' ') + 1, method.indexOf('(')));
        }
        List<Class<?>> all = new ArrayList<>(List.of(SoficShift.class));
        all.addAll(Arrays.asList(SoficShift.class.getDeclaredClasses()));
        check(all.size() <= 12, "too many classes: " + all.size());
        for (Class<?> c : all) {
            boolean inner = c != SoficShift.class;
            check(!inner || Modifier.isStatic(c.getModifiers()) && !Modifier.isPublic(c.getModifiers())
                    && !Modifier.isProtected(c.getModifiers()), "class inside: " + c);
            int fields = 0;
            for (Field field : c.getDeclaredFields()) {
                boolean constant = Modifier.isStatic(field.getModifiers());
                fields += constant ? 0 : 1;
                check(!constant || Modifier.isFinal(field.getModifiers()), "static state: " + field);
            }
            check(fields <= 20, "too many fields in " + c);
            for (Method method : c.getDeclaredMethods()) {
                check(method.getParameterCount() <= 7, "too many parameters: " + method);
                check(!inner && Modifier.isPublic(method.getModifiers()) || !faceNames.contains(method.getName()),
                        "a name of the face inside: " + method);
            }
        }
    }

    /** All calls of a run share one room for objects, so calls are to make none. */
    private static void allocations() {
        SoficShift x = new SoficShift();
        for (int i = 0; i < 40; i++) {
            mixedCalls(x, i);
        }
        com.sun.management.ThreadMXBean meter = (com.sun.management.ThreadMXBean) ManagementFactory.getThreadMXBean();
        long id = Thread.currentThread().getId();
        long before = meter.getThreadAllocatedBytes(id);
        for (int i = 0; i < 40; i++) {
            mixedCalls(x, i);
        }
        long used = meter.getThreadAllocatedBytes(id) - before;
        check(used < 20000, "calls allocated " + used + " bytes");
    }

    private static void mixedCalls(SoficShift x, int seed) {
        x.random(0, seed, 20);
        x.addEdge(0, 1, 1, 2);
        x.removeEdge(0, 1, 1, 2);
        x.random(1, seed + 1, 24);
        x.words(0, 30);
        x.growth(0, 9, 0);
        x.writeWord(0, 9, 3);
        x.forbidden(0, 5);
        x.writeForbidden(0, 3, 0);
        x.periodic(0, 6);
        x.orbits(0, 6);
        x.characteristic(0, 1);
        x.cover(0, 2);
        x.writeReset(0);
        x.memory(0);
        x.isMixing(0);
        x.writeDifference(0, 1);
        x.union(0, 1, 3);
        x.intersect(0, 1, 3);
        x.reverse(0, 4);
        x.relabel(0, 1, 2, 4);
        x.feed('a');
        x.forbid(0, 5);
        x.writeGraph(0);
        x.feed('a');
        x.allows(0);
        x.parse(0);
        x.undo();
        x.save();
        x.restore();
        x.createArray(0, seed % 3, 30);
        x.setElement(0, 1, 4);
        x.setNaN(0, 1);
        x.compareElements(0, 0, 1);
        x.checkCounts(0, 0);
    }

    private static void source(Path path) throws IOException {
        String text = Files.readString(path);
        for (int i = 0; i < text.length(); i++) {
            check(text.charAt(i) < 128, "a sign above 127 at " + i);
        }
        String code = text.replaceAll("(?s)/\\*.*?\\*/", "").replaceAll("//[^\n]*", "");
        for (String word : List.of("try", "catch", "finally", "throw", "throws", "synchronized", "assert", "instanceof", "double",
                "Thread", "Random", "package", "static \\{", "var")) {
            check(!Pattern.compile("\\b" + word + "\\b").matcher(code).find(), "the source has '" + word + "'");
        }
        for (String sign : List.of("->", "::", "Exact", "Float.", "Double.", "Object", "\"")) {
            check(!code.contains(sign), "the source has '" + sign + "'");
        }
        Matcher imports = Pattern.compile("import ([^;]*);").matcher(code);
        while (imports.find()) {
            check(imports.group(1).equals("java.util.Arrays"), "import " + imports.group(1));
        }
        Matcher library = Pattern.compile("\\b(Arrays|System|Math|Integer|Long)\\.(\\w+)").matcher(code);
        Set<String> allowed = Set.of("Arrays.fill", "Arrays.copyOf", "System.arraycopy", "Math.min", "Math.max", "Integer.bitCount", "Long.bitCount",
                "Long.MIN_VALUE");
        while (library.find()) {
            check(allowed.contains(library.group()), "the source uses " + library.group());
        }
        methodLengths(code);
    }

    private static void methodLengths(String code) {
        int start = -1;
        int depth = 0;
        String[] lines = code.split("\n");
        for (int i = 0; i < lines.length; i++) {
            String line = lines[i];
            if (line.matches("\\s+(private |public |static |final )*[\\w\\[\\]<>]+ ?\\w*\\(.*\\) \\{") && !line.matches("\\s+(for|if|while|switch).*")
                    && !line.contains("else")) {
                start = i;
                depth = line.indexOf(line.trim());
            }
            if (start >= 0 && line.equals(" ".repeat(depth) + "}")) {
                check(i - start <= 60, "a long method ends at line " + (i + 1) + ": " + lines[start].trim());
                start = -1;
            }
        }
    }
}
