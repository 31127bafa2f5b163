import java.io.File;
import java.io.IOException;
import java.lang.reflect.Method;
import java.lang.reflect.Modifier;
import java.nio.file.Files;
import java.nio.file.Path;
import java.util.List;
import java.util.regex.Matcher;
import java.util.regex.Pattern;

/** What README.md tells: its example, and that no call and no test is missing; it is run in the project's folder. */
public final class ReadmeTest extends ShipCheck {
    private static final Path OWN = Path.of("src/test/java/ReadmeTest.java");

    public static void main(String[] args) throws IOException {
        begin("ReadmeTest");
        String readme = Files.readString(Path.of("README.md"));
        example();
        exampleIsThePages(readme);
        commentsAreThePages(readme);
        eachCallIsNamed(readme);
        eachTestIsNamed(readme);
        check.end();
    }

    private static void example() {
        // The page's example begins here.
        ShipLanterns ship = new ShipLanterns();
        int forward = ship.addBox(0, 20, 20, false);
        int lantern = ship.hang(forward, 4, true);
        int burning = ship.cross(forward);
        int reason = ship.lantern(lantern, 3);
        int saved = ship.undo();
        for (char sign : "0>9,9;2*3;2#0,5".toCharArray()) {
            ship.append(sign);
        }
        int added = ship.load();
        int leak = ship.count(4);
        int blown = ship.fault(0, 1, 7);
        int first = ship.ifFault(2, 0, 2, 3);
        // The page's example ends here.
        due("forward", forward, 1);
        due("lantern", lantern, 0);
        due("burning", burning, 0);
        due("reason", reason, 4);
        due("saved", saved, 2);
        due("added", added, 3);
        due("leak", leak, 0);
        due("blown", blown, 0);
        due("first", first, 200);
    }

    private static String between(String text, String begin, String end) {
        int from = text.indexOf(begin) + begin.length();
        return text.substring(from, text.indexOf(end, from)).strip();
    }

    private static void exampleIsThePages(String readme) throws IOException {
        String page = between(readme, "```java\n", "```").replaceAll(" *//[^\n]*", "");
        String own = between(Files.readString(OWN), "// The page's example begins here.\n",
                "// The page's example ends here.");
        check.dueText("the example of README.md", page, own.replaceAll("(?m)^ {8}", ""));
    }

    /** Each answer that the page's comments tell is one that the example is held against above. */
    private static void commentsAreThePages(String readme) throws IOException {
        String own = Files.readString(OWN);
        Matcher told = Pattern.compile("int (\\w+) = [^\n]*;\\s*// (-?\\d+):").matcher(readme);
        int many = 0;
        while (told.find()) {
            String held = "due(\"" + told.group(1) + "\", " + told.group(1) + ", " + told.group(2) + ");";
            check.due(held + " stands in ReadmeTest", own.contains(held) ? 1 : 0, 1);
            many++;
        }
        due("answers told in README.md", many, 9);
    }

    private static void eachCallIsNamed(String readme) {
        for (Method method : ShipLanterns.class.getDeclaredMethods()) {
            if (Modifier.isPublic(method.getModifiers())) {
                String row = "| `" + method.getName() + "(";
                Matcher named = Pattern.compile(Pattern.quote(row) + "([^)]*)\\)").matcher(readme);
                boolean found = named.find();
                due(row + " is named in README.md", found ? 1 : 0, 1);
                int arguments = !found || named.group(1).isEmpty() ? 0 : named.group(1).split(",").length;
                due("arguments of " + method.getName(), arguments, method.getParameterCount());
            }
        }
    }

    private static void eachTestIsNamed(String readme) {
        File[] files = new File("src/test/java").listFiles();
        List<File> tests = files == null ? List.of() : List.of(files);
        for (File file : tests) {
            if (file.getName().endsWith("Test.java")) {
                due(file + " is named in README.md", readme.contains("`src/test/java/" + file.getName() + "`") ? 1 : 0, 1);
            }
        }
        due("files are found", tests.isEmpty() ? 0 : 1, 1);
    }
}
