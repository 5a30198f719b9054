import java.io.ByteArrayOutputStream;
import java.io.IOException;
import java.io.PrintStream;
import java.lang.reflect.Method;
import java.lang.reflect.Modifier;
import java.nio.file.Files;
import java.nio.file.Path;
import java.util.HashSet;
import java.util.List;
import java.util.Set;
import java.util.regex.Matcher;
import java.util.regex.Pattern;
import java.util.stream.Collectors;
import java.util.stream.Stream;

/** README.md tells what is so: its example runs as told, it names every call and every test. */
public final class ReadmeTest {
    private static final Check check = new Check();

    public static void main(String[] args) throws IOException {
        String readme = Files.readString(Path.of("README.md"));
        linesOfTheExample(readme);
        answersOfTheExample(readme);
        camps(readme);
        callsAndTests(readme);
        promises();
        check.end();
    }

    /** What stands between ``` and a kind, and the next ```. */
    private static List<String> blocks(String readme, String kind) {
        return Stream.of(readme.split("(?m)^```" + kind + "\n")).skip(1).map(block -> block.split("(?m)^```$")[0]).toList();
    }

    private static void linesOfTheExample(String readme) throws IOException {
        List<String> lines = Files.readAllLines(Path.of("src/test/java/Example.java")).stream().map(String::strip).toList();
        for (String block : blocks(readme, "java")) {
            for (String line : block.split("\n")) {
                check.due("Example has the line " + line.strip(), lines.contains(line.strip()) ? 1 : 0, 1);
            }
        }
    }

    private static void answersOfTheExample(String readme) {
        PrintStream screen = System.out;
        ByteArrayOutputStream printed = new ByteArrayOutputStream();
        System.setOut(new PrintStream(printed, true));
        Example.main(new String[0]);
        System.setOut(screen);
        String last = blocks(readme, "text").get(1);
        check.due("Example prints what README.md tells", printed.toString().replace("\r", "").equals(last) ? 1 : 0, 1);
    }

    /** The lines of a camp that are told there make a camp. */
    private static void camps(String readme) {
        String told = Stream.of(blocks(readme, "text").get(0).split("\n")).map(line -> line.substring(0, line.indexOf(';') + 1))
            .collect(Collectors.joining("\n"));
        check.due("lines of the camp in README.md", Check.camp(told).count(7), 5);
    }

    private static void callsAndTests(String readme) throws IOException {
        for (Method method : SacredHens.class.getDeclaredMethods()) {
            if (Modifier.isPublic(method.getModifiers())) {
                check.due("README.md names " + method.getName(), readme.contains("`" + method.getName() + "`")
                    || readme.contains("`" + method.getName() + "(") ? 1 : 0, 1);
            }
        }
        try (Stream<Path> files = Files.list(Path.of("src/test/java"))) {
            for (Path file : files.toList()) {
                String name = file.getFileName().toString().replace(".java", "");
                check.due("README.md names " + name, readme.contains("`" + name + "`") || readme.contains(name + ".java") ? 1 : 0, 1);
            }
        }
    }

    /** Each promise has its number, or two with "to" about it, in the remark of a function of some EdgesTest. */
    private static void promises() throws IOException {
        Pattern remark = Pattern.compile("(?m)^    /\\*\\* (\\d+(?:(?:, | to | and )\\d+)*)");
        Set<Integer> held = new HashSet<>();
        try (Stream<Path> files = Files.list(Path.of("src/test/java"))) {
            for (Path file : files.filter(path -> path.toString().endsWith("EdgesTest.java")).toList()) {
                Matcher found = remark.matcher(Files.readString(file));
                while (found.find()) {
                    addNumbers(held, found.group(1));
                }
            }
        }
        for (int promise = 1; promise <= 77; promise++) {
            check.due("a remark bears promise " + promise, held.contains(promise) ? 1 : 0, 1);
        }
    }

    private static void addNumbers(Set<Integer> held, String numbers) {
        for (String part : numbers.split(", | and ")) {
            String[] ends = part.split(" to ");
            for (int n = Integer.parseInt(ends[0]); n <= Integer.parseInt(ends[ends.length - 1]); n++) {
                held.add(n);
            }
        }
    }
}
