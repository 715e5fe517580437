import java.io.IOException;
import java.lang.reflect.InvocationTargetException;
import java.lang.reflect.Method;
import java.lang.reflect.Modifier;
import java.nio.file.DirectoryStream;
import java.nio.file.Files;
import java.nio.file.Path;
import java.util.regex.Matcher;
import java.util.regex.Pattern;

/** README.md says how to use the class (its example answers what it says there) and names every call and every test. */
public final class ReadmeTest {
    private static final Path README = Path.of("README.md");
    private static final Path TESTS = Path.of("src/test/java");
    private static final Pattern LINE = Pattern.compile("planner\\.(\\w+)\\(([^)]*)\\);\\s+// (\\S+): ");
    private static int wrong;

    private static void must(boolean holds, String what) {
        if (!holds) {
            wrong++;
            System.out.println("README.md: " + what);
        }
    }

    public static void main(String[] args) throws IOException, ReflectiveOperationException {
        String page = Files.readString(README);
        int lines = example(page);
        must(lines > 0, "there is an example");
        must(page.lines().filter(l -> l.startsWith("planner.")).count() == lines, "each line of it tells its answer");
        names(page);
        System.out.println(wrong == 0 ? "what README.md says holds" : wrong + " things don't hold");
        if (wrong != 0) {
            System.exit(1);
        }
    }

    private static int example(String page) throws ReflectiveOperationException {
        AheadPlanner planner = new AheadPlanner();
        int lines = 0;
        Matcher m = LINE.matcher(page);
        while (m.find()) {
            lines++;
            Object got = call(planner, m.group(1), m.group(2).split(", "));
            must(String.valueOf(got).equals(m.group(3)), m.group().strip() + " answered " + got);
        }
        return lines;
    }

    private static Object call(AheadPlanner planner, String name, String[] told)
            throws IllegalAccessException, InvocationTargetException {
        for (Method method : AheadPlanner.class.getDeclaredMethods()) {
            if (method.getName().equals(name) && method.getParameterCount() == told.length) {
                Object[] given = new Object[told.length];
                for (int i = 0; i < told.length; i++) {
                    boolean truth = method.getParameterTypes()[i] == boolean.class;
                    given[i] = truth ? (Object) Boolean.valueOf(told[i]) : (Object) Integer.valueOf(told[i]);
                }
                return method.invoke(planner, given);
            }
        }
        return "nothing: there is no such call";
    }

    private static void names(String page) throws IOException {
        for (Method method : AheadPlanner.class.getDeclaredMethods()) {
            if (Modifier.isPublic(method.getModifiers())) {
                must(page.contains("`" + method.getName() + "`"), "names " + method.getName() + "()");
            }
        }
        try (DirectoryStream<Path> tests = Files.newDirectoryStream(TESTS, "*Test.java")) {
            for (Path test : tests) {
                String name = test.getFileName().toString().replace(".java", "");
                must(page.contains("`" + name + "`"), "names " + name);
            }
        }
        must(page.contains("`.ci/run`"), "tells how to run the tests");
        must(page.contains("`../shared/tests`"), "tells which tests are run");
    }
}
