import java.io.IOException;
import java.net.URL;
import java.net.URLClassLoader;
import java.nio.file.Files;
import java.nio.file.Path;
import java.util.ArrayList;
import java.util.List;
import java.util.regex.Matcher;
import java.util.regex.Pattern;
import java.util.stream.Collectors;
import java.util.stream.Stream;
import javax.tools.ToolProvider;

/** README.md beside the program and the document: its lines of Java, its tables, its list of tests. */
public final class ReadmeTest {
    private static final Pattern ANSWERED = Pattern.compile("(guess\\.\\w+\\([^)]*\\)); *// (-?\\d+):.*");
    private static final Pattern REFUSAL = Pattern.compile("\\b(UNKNOWN|OUTSIDE|STATE|FULL|NO)\\b");

    private final Check check = new Check();
    private final String page = Files.readString(Path.of("README.md"));
    private final String document = Files.readString(Path.of("../shared/DOC.md"));

    private ReadmeTest() throws IOException {
    }

    public static void main(String[] args) throws Exception {
        ReadmeTest test = new ReadmeTest();
        test.linesOfJava();
        test.callsAndRefusals();
        test.constants();
        test.tests();
        test.check.end();
    }

    /** Which of the page's lines tell an answer, and the answers they get when the page is compiled and run as it is. */
    private void linesOfJava() throws Exception {
        List<String> calls = new ArrayList<>();
        List<Long> dues = new ArrayList<>();
        StringBuilder source = new StringBuilder("public class Page implements java.util.function.Supplier<long[]> {\n"
            + "public long[] get() {\njava.util.List<Long> got = new java.util.ArrayList<>();\n");
        for (String line : between("```java\n", "```").split("\n")) {
            Matcher answered = ANSWERED.matcher(line);
            if (answered.matches()) {
                calls.add(answered.group(1));
                dues.add(Long.valueOf(answered.group(2)));
                source.append("got.add((long) ").append(answered.group(1)).append(");\n");
            } else {
                check.holds("an answer is told: " + line, !line.startsWith("guess."));
                source.append(line).append('\n');
            }
        }
        source.append("return got.stream().mapToLong(one -> one).toArray();\n}\n}\n");
        long[] got = run(source.toString());
        check.due("answers", got.length, dues.size());
        for (int i = 0; i < got.length; i++) {
            check.due(calls.get(i) + ", call " + i + " of README.md", got[i], dues.get(i));
        }
        for (String name : names()) {
            check.holds(name + "() is among the lines of Java", source.indexOf("guess." + name + "(") >= 0);
        }
    }

    private String between(String from, String to) {
        int begin = page.indexOf(from) + from.length();
        int end = page.indexOf(to, begin);
        check.holds("README.md has " + from.trim(), begin >= from.length() && end > begin);
        return page.substring(begin, end);
    }

    private static long[] run(String source) throws Exception {
        Path place = Files.createTempDirectory("page");
        try {
            Path file = Files.writeString(place.resolve("Page.java"), source);
            int failed = ToolProvider.getSystemJavaCompiler().run(null, null, null, "-d", place.toString(), "-cp",
                System.getProperty("java.class.path"), file.toString());
            if (failed != 0) {
                return new long[0];
            }
            try (URLClassLoader loader = new URLClassLoader(new URL[] {place.toUri().toURL()})) {
                Object made = loader.loadClass("Page").getDeclaredConstructor().newInstance();
                return (long[]) ((java.util.function.Supplier<?>) made).get();
            }
        } finally {
            try (Stream<Path> files = Files.list(place)) {
                for (Path file : files.toList()) {
                    Files.delete(file);
                }
            }
            Files.delete(place);
        }
    }

    /** The calls, in the document's order. */
    private List<String> names() {
        return Pattern.compile("(?m)^    public (?:int|long) (\\w+)\\(").matcher(document).results()
            .map(found -> found.group(1)).toList();
    }

    private void callsAndRefusals() {
        List<String> rows = page.lines().filter(line -> line.matches("\\| `\\w+\\(.*")).toList();
        List<String> promises = document.lines().filter(line -> line.matches("`(int|long) \\w+\\(.*")).toList();
        check.due("calls in the table", rows.size(), 18);
        check.due("promises of calls", promises.size(), 18);
        for (int i = 0; i < rows.size() && i < promises.size(); i++) {
            String[] cells = rows.get(i).split(" *\\| *", -1);
            String promise = promises.get(i);
            String face = promise.substring(1, promise.indexOf('`', 1)).replaceAll("\\b(int|long) ", "");
            check.holds(cells[1] + " is the call " + face, cells[1].equals("`" + face + "`"));
            String due = refusals(promise);
            check.holds(face + " is refused with " + due, refusals(cells[3]).equals(due));
            check.due(face + " says NONE", cells[2].contains("`NONE`") ? 1 : 0, promise.contains("NONE") ? 1 : 0);
        }
    }

    private static String refusals(String text) {
        return REFUSAL.matcher(text).results().map(found -> found.group()).collect(Collectors.joining(" "));
    }

    private void constants() throws Exception {
        for (String name : new String[] {"UNKNOWN", "OUTSIDE", "STATE", "FULL", "NO", "NONE"}) {
            Matcher row = Pattern.compile("(?m)^\\| `" + name + "` \\| (-\\d) \\|").matcher(page);
            check.holds(name + " has a row", row.find());
            check.due(name, Integer.parseInt(row.group(1)), EditGuess.class.getField(name).getInt(null));
        }
    }

    private void tests() throws IOException {
        try (Stream<Path> files = Files.list(Path.of("src/test/java"))) {
            for (Path file : files.toList()) {
                String name = file.getFileName().toString().replace(".java", "");
                if (name.endsWith("Test")) {
                    check.holds(name + " is told of", between("## How to run its tests", "One test").contains("`" + name + "`"));
                }
            }
        }
        check.holds("lines of 130 signs at most, but for tables",
            page.lines().allMatch(line -> line.length() <= 130 || line.startsWith("|")));
    }
}
