import java.io.IOException;
import java.lang.reflect.Method;
import java.lang.reflect.Modifier;
import java.nio.file.Files;
import java.nio.file.Path;
import java.util.List;
import java.util.regex.Matcher;
import java.util.regex.Pattern;

/** README.md: its example answers what it says, and it names all calls and all tests that there are. */
public final class ReadmeTest {
    private static final Check CHECK = new Check();
    private static final Path TESTS = Path.of("src/test/java");

    public static void main(String[] args) throws IOException {
        String readme = Files.readString(Path.of("README.md"));
        example();
        exampleIsTheSame(readme);
        callsAreNamed(readme);
        testsAreNamed(readme);
        CHECK.end();
    }

    private static void example() {
        // README.md has these lines
        AccordHouse house = new AccordHouse();
        house.type(0x4C54, 2);                       // the tape is "LT"
        int kind = house.kind();                     // a kind: a latest value, a text
        int thing = house.act(0, 0, 0, 0, kind, 0);  // node 0 makes an object: 1
        house.join(1, 0);                            // node 1 has it, too

        house.act(0, 1, thing, 0, 42, 0);            // node 0 sets the latest value
        house.type(0x6869, 2);                       // the tape is "hi"
        int rows = house.commit(1, thing, 1);        // node 1 writes that, by 2 rows

        house.send(0, 1, false);                     // a frame goes to node 1
        int came = house.deliver(0);                 // and comes, with 1 row
        house.send(1, 0, false);                     // another one goes back
        house.deliver(0);
        int latest = house.value(1, thing, 0, 0);    // 42 at both
        int length = house.size(0, thing, 1);        // 2 characters at both

        house.act(0, 13, 0, 0, 0, 0);                // node 0 takes its change back
        int undone = house.value(0, thing, 0, 0);    // 0 there
        int before = house.past(0, 2, thing, 0);     // 42 with its first 2 rows
        // up to here
        CHECK.due("kind", kind, 0);
        CHECK.due("thing", thing, 1);
        CHECK.due("rows", rows, 2);
        CHECK.due("came", came, 1);
        CHECK.due("latest", latest, 42);
        CHECK.due("length", length, 2);
        CHECK.dueText("the text at one", Check.text(house, 0, thing, 1), "hi");
        CHECK.dueText("the text at the other one", Check.text(house, 1, thing, 1), "hi");
        CHECK.due("undone", undone, 0);
        CHECK.due("before", before, 42);
    }

    private static void exampleIsTheSame(String readme) throws IOException {
        String own = Files.readString(TESTS.resolve("ReadmeTest.java"));
        String run = between(own, "        // README.md has these lines\n", "        // up to here\n");
        CHECK.dueText("the example", between(readme, "```java\n", "```").strip(), run.stripTrailing().stripIndent());
    }

    private static String between(String text, String start, String end) {
        int from = text.indexOf(start) + start.length();
        return text.substring(from, text.indexOf(end, from));
    }

    private static void callsAreNamed(String readme) {
        for (Method method : AccordHouse.class.getDeclaredMethods()) {
            if (Modifier.isPublic(method.getModifiers())) {
                CHECK.due(method.getName() + " is named", readme.contains("`" + method.getName() + "`"), true);
            }
        }
    }

    private static void testsAreNamed(String readme) throws IOException {
        try (var files = Files.list(TESTS)) {
            List<String> names = files.map(file -> file.getFileName().toString().replace(".java", "")).toList();
            for (String name : names) {
                CHECK.due(name + " is named", readme.contains("`" + name + "`"), true);
            }
            Matcher named = Pattern.compile("`(\\w+(Test|Edges))`").matcher(readme);
            while (named.find()) {
                CHECK.due(named.group(1) + " is a file", names.contains(named.group(1)), true);
            }
        }
        CHECK.due("the way to run them is named", readme.contains("    .ci/run\n"), true);
        CHECK.due("it is there", Files.isExecutable(Path.of(".ci/run")), true);
    }
}
