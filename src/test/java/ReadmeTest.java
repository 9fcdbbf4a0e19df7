import java.io.File;
import java.lang.reflect.Method;
import java.lang.reflect.Modifier;
import java.nio.file.Files;
import java.nio.file.Path;
import java.util.List;
import java.util.Set;
import java.util.TreeSet;
import java.util.regex.Matcher;
import java.util.regex.Pattern;

/** Makes the calls that README.md shows, so that what it tells of the class stays true. */
public final class ReadmeTest {
    private static final String FIRST = "FlowInspector x = new FlowInspector();";
    private static final Pattern CALL = Pattern.compile("x\\.(\\w+)\\(([^)]*)\\); +// (-?\\d+|true|false): .+");
    private static int wrong = 0;

    public static void main(String[] args) throws Exception {
        List<String> lines = Files.readAllLines(Path.of("README.md"));
        Set<String> shown = makeShownCalls(lines);
        everyMethodIsShown(shown);
        everyTestIsTold(String.join("\n", lines));
        System.out.println(wrong == 0 ? "README.md tells what is so" : wrong + " things in README.md are not so");
        if (wrong != 0) System.exit(1);
    }

    private static void complain(String what) {
        wrong++;
        System.out.println("README.md: " + what);
    }

    private static Set<String> makeShownCalls(List<String> lines) throws Exception {
        Set<String> shown = new TreeSet<>();
        FlowInspector x = new FlowInspector();
        int first = lines.indexOf(FIRST);
        if (first < 0) complain("there is no example");
        for (int i = first + 1; first >= 0 && i < lines.size() && !lines.get(i).equals("```"); i++) {
            Matcher row = CALL.matcher(lines.get(i));
            if (!row.matches()) {
                complain("not a call with its answer: " + lines.get(i));
                continue;
            }
            shown.add(row.group(1));
            String got = answer(x, row.group(1), row.group(2));
            if (!got.equals(row.group(3))) complain("answered was " + got + ": " + lines.get(i));
        }
        return shown;
    }

    private static String answer(FlowInspector x, String name, String list) throws Exception {
        String[] words = list.isEmpty() ? new String[0] : list.split(", ");
        Object[] numbers = new Object[words.length];
        Class<?>[] types = new Class<?>[words.length];
        for (int i = 0; i < words.length; i++) {
            numbers[i] = Integer.parseInt(words[i]);
            types[i] = int.class;
        }
        return String.valueOf(FlowInspector.class.getMethod(name, types).invoke(x, numbers));
    }

    private static void everyMethodIsShown(Set<String> shown) {
        for (Method m : FlowInspector.class.getDeclaredMethods()) {
            if (Modifier.isPublic(m.getModifiers()) && !shown.contains(m.getName())) {
                complain("no call shows " + m.getName());
            }
        }
    }

    private static void everyTestIsTold(String text) {
        if (!text.contains("\n.ci/run\n")) complain("how to run the tests is not told");
        for (File f : new File("src/test/java").listFiles()) {
            String test = f.getName().replace(".java", "");
            if (!text.contains("- `" + test + "`")) complain("the test " + test + " is not told");
        }
    }
}
