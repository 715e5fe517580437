import java.io.IOException;
import java.io.PrintWriter;
import java.io.StringWriter;
import java.lang.management.ManagementFactory;
import java.lang.reflect.Array;
import java.lang.reflect.Field;
import java.lang.reflect.Method;
import java.lang.reflect.Modifier;
import java.nio.file.Files;
import java.nio.file.Path;
import java.util.ArrayList;
import java.util.Arrays;
import java.util.HashMap;
import java.util.IdentityHashMap;
import java.util.List;
import java.util.Map;
import java.util.Set;
import java.util.TreeSet;
import java.util.regex.Matcher;
import java.util.regex.Pattern;
import java.util.spi.ToolProvider;

/** The rules of LANGUAGE.md that a program can look at: the face, words that are out, sizes, what a run makes. */
public final class RulesTest {
    private static final Path SOURCE = Path.of("src/main/java/AheadPlanner.java");
    private static final Path DOCUMENT = Path.of("../shared/DOC.md");
    // Far below one row of the class, should the machine count something of its own.
    private static final long SLIGHT = 1_000;
    private static int wrong;

    private static void must(boolean holds, String rule) {
        if (!holds) {
            wrong++;
            System.out.println("broken: " + rule);
        }
    }

    public static void main(String[] args) throws IOException, IllegalAccessException {
        String source = Files.readString(SOURCE);
        face();
        words(source);
        lengths(source);
        classes();
        makers(source);
        compiled();
        whatTheConstructorMakes();
        whatCallsMake();
        System.out.println(wrong == 0 ? "the rules are kept" : wrong + " rules are broken");
        if (wrong != 0) {
            System.exit(1);
        }
    }

    private static void face() throws IOException {
        TreeSet<String> told = new TreeSet<>();
        Matcher m = Pattern.compile("    public (int|boolean) (\\w+)\\(([^)]*)\\);").matcher(Files.readString(DOCUMENT));
        while (m.find()) {
            told.add(m.group(1) + " " + m.group(2) + "(" + m.group(3).replaceAll(" \\w+(, |$)", "$1") + ")");
        }
        TreeSet<String> there = new TreeSet<>();
        for (Method method : AheadPlanner.class.getDeclaredMethods()) {
            if (!Modifier.isPrivate(method.getModifiers())) {
                List<String> types = new ArrayList<>();
                Arrays.stream(method.getParameterTypes()).forEach(t -> types.add(t.getName()));
                there.add(method.getReturnType().getName() + " " + method.getName() + "(" + String.join(", ", types) + ")");
                must(Modifier.isPublic(method.getModifiers()), "1: " + method + " is public");
            }
        }
        must(told.size() == 34, "the document's methods are read: " + told.size());
        must(told.equals(there), "1: the face is " + told + ", there is " + there);
        for (Field field : AheadPlanner.class.getDeclaredFields()) {
            boolean constant = field.getName().equals("NONE");
            must(constant == Modifier.isPublic(field.getModifiers()), "1: " + field);
            must(constant || Modifier.isPrivate(field.getModifiers()), "1: " + field);
        }
        must(AheadPlanner.class.getDeclaredConstructors().length == 1, "1: one constructor");
        must(Modifier.isFinal(AheadPlanner.class.getModifiers()), "1: final");
    }

    private static void words(String source) {
        String code = source.replaceAll("(?s)/\\*.*?\\*/", " ").replaceAll("//[^\n]*", " ");
        String[] out = {"\\bthrow\\b", "\\btry\\b", "\\bcatch\\b", "\\bsynchronized\\b", "\\bassert\\b", "->", "::",
            "Exact\\(", "\\bpackage\\b", "static \\{", "\\bprotected\\b", "\\bSystem\\.(?!arraycopy)", "\\bThread\\b",
            "\\bRandom\\b", "\\bequals\\b", "\\bhashCode\\b", "\\btoString\\b", "\\bclass \\w+ extends\\b"};
        for (String word : out) {
            must(!Pattern.compile(word).matcher(code).find(), "no " + word);
        }
        Matcher m = Pattern.compile("import ([\\w.]+);").matcher(code);
        while (m.find()) {
            must(m.group(1).equals("java.util.Arrays"), "4: import of " + m.group(1));
        }
        must(source.chars().allMatch(c -> c < 128), "only plain signs");
    }

    private static void lengths(String source) {
        String[] lines = source.split("\n");
        for (int i = 0; i < lines.length; i++) {
            if (!lines[i].matches(" {4}( {4})?[\\w\\[\\]<> ]+\\([^;]*\\) \\{") || lines[i].contains(" for (")
                    || lines[i].contains(" if (") || lines[i].contains(" while (") || lines[i].contains(" switch (")) {
                continue;
            }
            String end = lines[i].replaceAll("\\S.*", "") + "}";
            int k = i;
            while (k < lines.length && !lines[k].equals(end)) {
                k++;
            }
            must(k - i <= 60, "11: some sixty lines: " + lines[i].trim());
        }
    }

    private static void classes() {
        TreeSet<String> names = new TreeSet<>();
        for (Method method : AheadPlanner.class.getMethods()) {
            if (method.getDeclaringClass() == AheadPlanner.class) {
                names.add(method.getName());
            }
        }
        Class<?>[] inside = AheadPlanner.class.getDeclaredClasses();
        must(inside.length + 1 <= 12, "11: some twelve classes");
        List<Class<?>> all = new ArrayList<>(Arrays.asList(inside));
        all.add(AheadPlanner.class);
        for (Class<?> c : all) {
            int fields = 0;
            for (Field field : c.getDeclaredFields()) {
                boolean isStatic = Modifier.isStatic(field.getModifiers());
                must(!isStatic || Modifier.isFinal(field.getModifiers()), "5: " + field);
                fields += isStatic ? 0 : 1;
            }
            must(fields <= 20, "11: some twenty fields: " + c);
            for (Method method : c.getDeclaredMethods()) {
                must(method.getParameterCount() <= 7, "11: seven parameters: " + method);
                boolean face = c == AheadPlanner.class && Modifier.isPublic(method.getModifiers());
                must(face || !names.contains(method.getName()), "1: a name of the face: " + method);
            }
            must(c == AheadPlanner.class || Modifier.isStatic(c.getModifiers()), "2: static: " + c);
        }
    }

    /** Objects and rows are made by constructors alone, in the source. */
    private static void makers(String source) {
        Pattern header = Pattern.compile(" {4}( {4})?[\\w\\[\\]<> ]*?(\\w+)\\([^;]*\\) \\{");
        TreeSet<String> makers = new TreeSet<>(List.of("AheadPlanner"));
        Arrays.stream(AheadPlanner.class.getDeclaredClasses()).forEach(c -> makers.add(c.getSimpleName()));
        String end = null;
        String method = "";
        int methods = 0;
        for (String line : source.split("\n")) {
            String code = line.replaceAll("//.*", "");
            Matcher m = header.matcher(code);
            if (end == null && m.matches()) {
                end = code.replaceAll("\\S.*", "") + "}";
                method = m.group(2);
                methods++;
            } else if (code.equals(end)) {
                end = null;
            } else if (end != null && !makers.contains(method)) {
                boolean makes = Pattern.compile("\\bnew\\b|\\bclone\\(|\\bcopyOf").matcher(code).find();
                must(!makes, "12: " + method + " makes something: " + code.trim());
            }
        }
        must(methods > 100, "the methods are read: " + methods);
    }

    /** What the compiled class calls: only the library that rule 4 leaves, nothing that throws, eight calls deep. */
    private static void compiled() {
        Map<String, Set<String>> calls = new HashMap<>();
        Set<String> outside = new TreeSet<>();
        List<String> roots = new ArrayList<>();
        for (Class<?> c : AheadPlanner.class.getNestMembers()) {
            String code = disassembled(c.getName());
            must(!Pattern.compile("\\d+: (athrow|monitorenter|invokedynamic|checkcast)\\b|Exception table:").matcher(code).find(),
                    "6: " + c + " throws, catches or casts");
            String method = null;
            for (String line : code.split("\n")) {
                Matcher header = Pattern.compile("^  (.*?)([\\w$.]+)\\([^)]*\\);$").matcher(line);
                Matcher call = Pattern.compile("// (?:Interface)?Method (?:([\\w/$]+)\\.)?\"?(<?\\w+>?)\"?:").matcher(line);
                if (header.matches()) {
                    boolean makes = header.group(2).equals(c.getName());
                    method = c.getName() + "." + (makes ? "<init>" : header.group(2));
                    must(calls.put(method, new TreeSet<>()) == null, "no two methods of one name: " + method);
                    if (header.group(1).startsWith("public ")) {
                        roots.add(method);
                    }
                } else if (method != null && call.find()) {
                    String of = call.group(1) == null ? c.getName() : call.group(1);
                    String called = of + "." + call.group(2);
                    (of.startsWith("java/") ? outside : calls.get(method)).add(called);
                }
            }
        }
        TreeSet<String> library = new TreeSet<>(List.of("java/lang/Math.abs", "java/lang/Math.max", "java/lang/Math.min",
                "java/lang/Object.<init>", "java/lang/System.arraycopy", "java/util/Arrays.fill"));
        outside.removeAll(library);
        must(outside.isEmpty(), "4: the library: " + outside);
        must(roots.size() == 35, "the methods of the face are read: " + roots.size());
        for (String root : roots) {
            List<String> way = deepest(root, calls, new ArrayList<>());
            must(way.size() <= 8, "11: eight calls deep: " + way);
        }
    }

    private static String disassembled(String name) {
        StringWriter text = new StringWriter();
        PrintWriter out = new PrintWriter(text);
        ToolProvider javap = ToolProvider.findFirst("javap").orElseThrow();
        must(javap.run(out, out, "-c", "-p", "-cp", System.getProperty("java.class.path"), name) == 0, "javap " + name);
        return text.toString();
    }

    /** The longest way of calls from a method on; one that comes round to itself is told as recursion. */
    private static List<String> deepest(String method, Map<String, Set<String>> calls, List<String> open) {
        List<String> longest = new ArrayList<>();
        must(!open.contains(method), "8: no recursion: " + open);
        if (open.contains(method)) {
            return longest;
        }
        open.add(method);
        for (String called : calls.getOrDefault(method, Set.of())) {
            List<String> way = deepest(called, calls, open);
            longest = way.size() > longest.size() ? way : longest;
        }
        open.remove(method);
        longest.add(0, method);
        return longest;
    }

    /** What the constructor makes lives as long as the run: counted with every field and element. */
    private static void whatTheConstructorMakes() throws IllegalAccessException {
        IdentityHashMap<Object, Boolean> seen = new IdentityHashMap<>();
        long cells = cellsOf(new AheadPlanner(), seen);
        must(seen.size() < 200, "12: the constructor makes " + seen.size() + " objects");
        must(cells < 100_000, "12: the constructor makes " + cells + " fields and elements");
    }

    // Each object is counted once, though several hold it.
    private static long cellsOf(Object o, IdentityHashMap<Object, Boolean> seen) throws IllegalAccessException {
        if (o == null || seen.put(o, true) != null) {
            return 0;
        }
        if (o.getClass().isArray()) {
            long cells = Array.getLength(o);
            for (int i = 0; o instanceof Object[] row && i < row.length; i++) {
                cells += cellsOf(row[i], seen);
            }
            return cells;
        }
        long cells = 0;
        for (Field field : o.getClass().getDeclaredFields()) {
            if (!Modifier.isStatic(field.getModifiers())) {
                cells++;
                field.setAccessible(true);
                cells += field.getType().isPrimitive() ? 0 : cellsOf(field.get(o), seen);
            }
        }
        return cells;
    }

    /** The calls of a run, kept states with them, make nothing at all. */
    private static void whatCallsMake() {
        com.sun.management.ThreadMXBean bean =
                (com.sun.management.ThreadMXBean) ManagementFactory.getThreadMXBean();
        long id = Thread.currentThread().getId();
        // Once ahead of what is measured, so that loading classes is not counted.
        bean.getThreadAllocatedBytes(id);
        callEach(new AheadPlanner());
        keepAtEachCall(new AheadPlanner());
        AheadPlanner x = new AheadPlanner();
        AheadPlanner y = new AheadPlanner();
        long before = bean.getThreadAllocatedBytes(id);
        callEach(x);
        long between = bean.getThreadAllocatedBytes(id);
        keepAtEachCall(y);
        long then = bean.getThreadAllocatedBytes(id);
        must(between - before < SLIGHT, "12: a run of all calls made " + (between - before) + " bytes");
        must(then - between < SLIGHT, "12: 512 calls of keep() made " + (then - between) + " bytes");
    }

    private static void keepAtEachCall(AheadPlanner x) {
        for (int i = 0; i < 512; i++) {
            x.keep(i % 2);
        }
    }

    private static void callEach(AheadPlanner x) {
        x.sets(0, 64);
        for (int i = 0; i < 11; i++) {
            x.reads(i * 17, 1 + i % 3, 40);
        }
        for (int i = 0; i < 14; i++) {
            x.read(i * 5);
            x.keep(i % 2);
            x.again(i % 2);
            x.tune(i % 3);
            x.best(i % 10, i % 2);
            x.replay(i % 10, 5, i);
            x.forecast(20, i % 4);
            x.would(i * 9, i % 6);
            x.plan(i * 9, i % 4);
            x.misses(1 + i, i % 2);
            x.pace(i % 2);
            x.row(1 + i, i % 2);
            x.gain(i % 3);
            x.habits(i % 5);
            x.mixed(i % 3);
            x.piece(i, i % 2);
            x.write(i, i);
            x.bad(i, true);
            x.idle(20);
            x.advise(i * 30, 1);
            x.drop(i * 2);
            x.block(i, i % 8);
            x.cached(i);
            x.stream(i % 4, i % 12);
            x.aheadOf(i % 4, i % 3);
            x.log(i, i % 4);
            x.whose(i, i % 2);
            x.trace(i);
            x.until(i % 4);
            x.ahead(i);
            x.count(i);
        }
        x.stop(0);
        x.sets(1, 4);
    }
}
