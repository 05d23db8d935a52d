import java.io.IOException;
import java.lang.reflect.Method;
import java.lang.reflect.Modifier;
import java.nio.file.Files;
import java.nio.file.Path;

/** What README.md shows: its example, line by line, answers as its comments tell; and it names every call. */
final class ReadmeTest {
    public static void main(String[] args) throws IOException {
        example();
        String readme = Files.readString(Path.of("README.md"));
        exampleIsThatOfTheReadme(readme);
        everyCallIsNamed(readme);
        Check.end();
    }

    private static void example() {
        StandingUp x = new StandingUp();
        int crossing = x.crossing(20, 12);
        int rower = x.rower(0, 4020, -1);
        int heir = x.rower(1, 1630, rower);
        int minutes = x.takes(crossing, 20 * rower + heir);
        int two = x.rowed(crossing, 9);
        int seat = x.heir(rower, 1);
        Check.due("crossing", 0, crossing);
        Check.due("rower", 0, rower);
        Check.due("its son", 1, heir);
        Check.due("takes", 1, minutes);
        Check.due("rowed", 1, two);
        Check.due("heir", 1, seat);

        x.sheet(0, 0, 3);
        x.cell(0, 2, 7);
        int least = x.waits(0, 3, 3, 0);
        int leaves = x.waits(0, 3, 3, 1);
        Check.due("least waits", 30, least);
        Check.due("minutes", 4, leaves);

        String rule = "load 9 ; price 5 ; turn age ; ";
        for (int i = 0; i < rule.length(); i++) {
            x.feed(1, rule.charAt(i));
        }
        int text = x.text();
        int ahead = x.force(text);
        int most = x.load(30, -1, 9);
        int refused = x.takes(crossing, 0);
        Check.due("text", 1, text);
        Check.due("force", 0, ahead);
        Check.due("load", 9, most);
        Check.due("takes of alike ones", -2, refused);
    }

    private static void exampleIsThatOfTheReadme(String readme) throws IOException {
        String test = Files.readString(Path.of("src/test/java/ReadmeTest.java"));
        String opening = "```java\n";
        int from = readme.indexOf(opening);
        int to = from < 0 ? -1 : readme.indexOf("```", from + opening.length());
        Check.due("README.md has an example", 1, to > 0 ? 1 : 0);
        if (to < 0) {
            return;
        }
        for (String line : readme.substring(from + opening.length(), to).split("\n")) {
            int comment = line.indexOf("//");
            String code = (comment < 0 ? line : line.substring(0, comment)).trim();
            Check.due("this test has the line: " + code, 1, test.contains(code) ? 1 : 0);
        }
    }

    private static void everyCallIsNamed(String readme) {
        for (Method m : StandingUp.class.getDeclaredMethods()) {
            if (Modifier.isPublic(m.getModifiers())) {
                String call = "`" + m.getName() + "(`";
                Check.due("README.md names " + call, 1, readme.contains(call) ? 1 : 0);
            }
        }
    }
}
