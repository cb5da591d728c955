import java.io.IOException;
import java.lang.reflect.Method;
import java.lang.reflect.Modifier;
import java.nio.file.Files;
import java.nio.file.Path;
import java.util.Map;
import java.util.TreeMap;
import java.util.TreeSet;
import java.util.regex.Matcher;
import java.util.regex.Pattern;

/** What README.md says of the class must hold: its example (promises 1 to 29), its calls, its refusals, its tests. */
public final class ReadmeTest {
    private static final Pattern SCHOOL = Pattern.compile("String text = \"([^\"]*)\"");
    private static final Pattern CALL = Pattern.compile("(?m)^x\\.(\\w+)\\(([^()]*)\\); *// (-?\\w+)");
    private static final Pattern ROW = Pattern.compile("(?m)^\\| `(\\w+)\\(([^()`]*)\\)` \\|.*\\| ([A-Z, ]*)\\|$");
    private static final Pattern CONSTANT = Pattern.compile("(?m)^\\| `([A-Z]+)` \\| (-\\d+) \\|");
    private static final Pattern REFUSAL = Pattern.compile("UNKNOWN|OUTSIDE|NOT\\b|FULL");

    private static final Check check = new Check();

    public static void main(String[] args) throws IOException {
        String page = Files.readString(Path.of("README.md"));
        example(page);
        calls(page);
        refusals(page);
        constants(page);
        tests(page);
        check.end();
    }

    private static void example(String page) {
        Matcher school = SCHOOL.matcher(page);
        check.isTrue("the page tells a school", school.find());
        User program = new User(new SatchelSins());
        User model = new User(new Model());
        for (int i = 0; i < school.group(1).length(); i++) {
            Call feed = Call.read("feed " + (int) school.group(1).charAt(i)).get(0);
            check.due("the model, " + feed, model.answer(feed), program.answer(feed));
        }
        TreeSet<String> shown = new TreeSet<>();
        Matcher line = CALL.matcher(page);
        while (line.find()) {
            String numbers = line.group(2).replace("SatchelSins.", "").replace(",", "");
            Call call = Call.read(line.group(1) + " " + numbers + " = " + line.group(3)).get(0);
            check.due("the example's " + call, program.answer(call), call.due);
            check.due("the example's " + call + " of the model", model.answer(call), call.due);
            shown.add(call.name);
        }
        // Letters are fed in a loop, without an answer beside it.
        shown.add("feed");
        check.isTrue("the example shows every call, not " + shown, shown.equals(new TreeSet<>(face().keySet())));
    }

    private static Map<String, Integer> face() {
        Map<String, Integer> parameters = new TreeMap<>();
        for (Method method : SatchelSins.class.getDeclaredMethods()) {
            if (Modifier.isPublic(method.getModifiers())) {
                parameters.put(method.getName(), method.getParameterCount());
            }
        }
        return parameters;
    }

    private static void calls(String page) {
        Map<String, Integer> rows = new TreeMap<>();
        Matcher row = ROW.matcher(page);
        while (row.find()) {
            rows.put(row.group(1), row.group(2).isEmpty() ? 0 : row.group(2).split(",").length);
        }
        check.isTrue("the table tells every call, not " + rows, rows.equals(face()));
    }

    /** The table names just the refusals that the document's promise of a call names. */
    private static void refusals(String page) throws IOException {
        Path document = Path.of("../shared/DOC.md");
        if (!Files.isReadable(document)) {
            System.out.println("no " + document + ": refusals are not compared with it");
            return;
        }
        String promises = Files.readString(document);
        Matcher row = ROW.matcher(page);
        while (row.find()) {
            int from = promises.indexOf("`int " + row.group(1) + "(");
            int end = promises.indexOf("\n## ", Math.max(0, from));
            check.isTrue("the document promises " + row.group(1), from >= 0 && end > from);
            if (from >= 0 && end > from) {
                TreeSet<String> due = refusalsIn(promises.substring(from, end));
                check.isTrue(row.group(1) + " refuses with " + due, refusalsIn(row.group(3)).equals(due));
            }
        }
    }

    private static TreeSet<String> refusalsIn(String text) {
        TreeSet<String> all = new TreeSet<>();
        Matcher word = REFUSAL.matcher(text);
        while (word.find()) {
            all.add(word.group());
        }
        return all;
    }

    private static void constants(String page) {
        Map<String, Integer> due = Map.of("UNKNOWN", SatchelSins.UNKNOWN, "OUTSIDE", SatchelSins.OUTSIDE,
            "NOT", SatchelSins.NOT, "FULL", SatchelSins.FULL);
        Map<String, Integer> told = new TreeMap<>();
        Matcher row = CONSTANT.matcher(page);
        while (row.find()) {
            told.put(row.group(1), Integer.valueOf(row.group(2)));
        }
        check.isTrue("the table tells every refusal, not " + told, told.equals(due));
    }

    private static void tests(String page) throws IOException {
        try (var files = Files.list(Path.of("src/test/java"))) {
            for (Path file : files.toList()) {
                String name = file.getFileName().toString().replace(".java", "");
                check.isTrue("the page names " + name, !name.endsWith("Test") || page.contains("`" + name + "`"));
            }
        }
    }
}
