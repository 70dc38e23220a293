import java.io.IOException;
import java.nio.file.Files;
import java.nio.file.Path;
import java.util.Set;
import java.util.TreeSet;
import java.util.regex.Matcher;
import java.util.regex.Pattern;
import java.util.stream.Stream;

/** What README.md tells of the class and of its tests: each answer in it, each call of the face, each test class. */
public final class ReadmeTest {
    private static final Due DUE = new Due("ReadmeTest");
    private static final Pattern BLOCK = Pattern.compile("(?s)```java\n(.*?)```");
    private static final Pattern CALL = Pattern.compile("shop\\.((\\w+)\\([^;]*\\));\\s+// (-?\\d+)\\b.*");
    private static final Pattern CONSTANT = Pattern.compile("`(NONE|BAD|STATE|FULL|UNKNOWN)` (-\\d)");

    public static void main(String[] args) throws IOException, ReflectiveOperationException {
        String readme = Files.readString(Path.of("README.md"));
        Set<String> told = new TreeSet<>();
        Matcher block = BLOCK.matcher(readme);
        while (block.find()) {
            answers(block.group(1), told);
        }
        DUE.isTrue("each call of the face is told: " + told, told.equals(face()));
        constants(readme);
        DUE.isTrue("each test class is told", testsTold(readme).equals(testsThere()));
        rowsAreMadeWithTheObject(Files.readString(Path.of("src/main/java/KeyShop.java")));
        DUE.end();
    }

    /** All calls of one block are made on one object, in their order. */
    private static void answers(String block, Set<String> told) {
        Run run = new Run("");
        for (String line : block.lines().map(String::strip).toList()) {
            boolean isCall = line.startsWith("shop.");
            Matcher call = CALL.matcher(line);
            DUE.isTrue(line + ": a call with its answer", isCall == call.matches());
            if (isCall && call.matches()) {
                told.add(call.group(2));
                long answer = run.ask(call.group(1).replace("KeyShop.", ""));
                DUE.same("README.md: " + call.group(1), answer, Long.parseLong(call.group(3)));
            }
        }
    }

    private static Set<String> face() {
        Set<String> names = new TreeSet<>();
        for (var method : KeyShop.class.getMethods()) {
            if (method.getDeclaringClass() == KeyShop.class) {
                names.add(method.getName());
            }
        }
        return names;
    }

    private static void constants(String readme) throws ReflectiveOperationException {
        Set<String> told = new TreeSet<>();
        Matcher constant = CONSTANT.matcher(readme);
        while (constant.find()) {
            told.add(constant.group(1));
            int value = KeyShop.class.getField(constant.group(1)).getInt(null);
            DUE.same("README.md: " + constant.group(1), Integer.parseInt(constant.group(2)), value);
        }
        DUE.same("constants that are told", told.size(), KeyShop.class.getFields().length);
    }

    private static Set<String> testsTold(String readme) {
        Set<String> names = new TreeSet<>();
        Matcher name = Pattern.compile("`(\\w+Test)`").matcher(readme);
        while (name.find()) {
            names.add(name.group(1));
        }
        return names;
    }

    private static Set<String> testsThere() throws IOException {
        Set<String> names = new TreeSet<>();
        try (Stream<Path> files = Files.list(Path.of("src/test/java"))) {
            files.map(file -> file.getFileName().toString()).filter(file -> file.endsWith("Test.java"))
                .forEach(file -> names.add(file.substring(0, file.length() - ".java".length())));
        }
        return names;
    }

    /** "All rows are made with the object": so a run needs no more room than its object does. */
    private static void rowsAreMadeWithTheObject(String source) {
        source.lines().map(String::strip).filter(line -> line.matches(".*\\bnew \\w+[(\\[].*"))
            .forEach(line -> DUE.isTrue(line + " is a field", line.matches("(private |final )+\\S+ \\w+ = new .*;")));
    }
}
