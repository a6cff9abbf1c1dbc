import java.io.IOException;
import java.lang.reflect.Method;
import java.lang.reflect.Modifier;
import java.nio.file.Files;
import java.nio.file.Path;
import java.util.ArrayList;
import java.util.List;
import java.util.Set;
import java.util.TreeSet;
import java.util.regex.Matcher;
import java.util.regex.Pattern;
import java.util.stream.Stream;

/** README.md told true: its example answers as it says, and the calls, constants and tests that it names are those there are. */
public final class ReadmeTest {
    private static final Due DUE = new Due("ReadmeTest");
    private static final Pattern TAPE = Pattern.compile("for \\(char sign : \"([^\"]*)\"\\.toCharArray\\(\\)\\) \\{");
    private static final Pattern CALL = Pattern.compile("x\\.(\\w+)\\(([^)]*)\\); +// (-?\\d+): .+");
    private static final Set<String> FRAME = Set.of("RivalSorry x = new RivalSorry();", "    x.feed(sign);", "}", "");

    public static void main(String[] args) throws Exception {
        String page = Files.readString(Path.of("README.md"));
        example(page);
        calls(page);
        constants(page);
        tests(page);
        DUE.end();
    }

    private static List<String> found(String pattern, String text) {
        List<String> all = new ArrayList<>();
        Matcher matcher = Pattern.compile(pattern, Pattern.DOTALL).matcher(text);
        while (matcher.find()) {
            all.add(matcher.group(1));
        }
        return all;
    }

    // ---- the example

    private static void example(String page) {
        List<String> blocks = found("```java\n(.*?)```", page);
        DUE.is("examples", blocks.size(), 1);
        RivalSorry x = new RivalSorry();
        for (String line : blocks.get(0).split("\n")) {
            Matcher tape = TAPE.matcher(line);
            Matcher call = CALL.matcher(line);
            if (tape.matches()) {
                Due.feedAll(x, tape.group(1));
            } else if (call.matches()) {
                DUE.is(line, Calls.on(x, call.group(1), numbers(call.group(2))), Long.parseLong(call.group(3)));
            } else {
                DUE.holds("a line that the test can read: " + line, FRAME.contains(line));
            }
        }
    }

    private static long[] numbers(String args) {
        return Stream.of(args.split(", ")).filter(one -> !one.isEmpty()).mapToLong(ReadmeTest::number).toArray();
    }

    private static long number(String told) {
        return told.startsWith("'") ? told.charAt(1) : Long.parseLong(told);
    }

    // ---- what it names

    private static void calls(String page) throws IOException {
        Set<String> told = new TreeSet<>(found("`(\\w+\\([a-z, ]*\\))`", page.substring(page.indexOf("The calls:"), page.indexOf("No call throws"))));
        Set<String> due = new TreeSet<>();
        String text = Files.readString(Path.of("src/main/java/RivalSorry.java"));
        for (String head : found("\n    public (?:int|long) (\\w+\\([a-z, ]*\\)) \\{", text)) {
            due.add(head.replaceAll("\\b(?:int|long) ", ""));
        }
        DUE.is("calls of the class", due.size(), publicMethods());
        DUE.same("the table of calls", told.toString(), due.toString());
    }

    private static long publicMethods() {
        return Stream.of(RivalSorry.class.getDeclaredMethods()).map(Method::getModifiers).filter(Modifier::isPublic).count();
    }

    private static void constants(String page) throws ReflectiveOperationException {
        List<String> told = found("\\| `([A-Z]+` -\\d+) \\|", page);
        DUE.is("constants", told.size(), 8);
        for (String one : told) {
            String[] parts = one.split("` ");
            DUE.is(parts[0], RivalSorry.class.getField(parts[0]).getInt(null), Long.parseLong(parts[1]));
        }
    }

    private static void tests(String page) throws IOException {
        Set<String> told = new TreeSet<>(found("`(\\w+Test)`", page));
        Set<String> due = new TreeSet<>();
        try (Stream<Path> files = Files.list(Path.of("src/test/java"))) {
            files.map(file -> file.getFileName().toString()).filter(name -> name.endsWith("Test.java"))
                .forEach(name -> due.add(name.replace(".java", "")));
        }
        DUE.same("the tests", told.toString(), due.toString());
    }
}
