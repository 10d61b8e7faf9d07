import java.io.IOException;
import java.nio.file.Files;
import java.nio.file.Path;
import java.util.ArrayList;
import java.util.List;
import java.util.regex.Matcher;
import java.util.regex.Pattern;

/** The example in README.md: its lines are made into calls, so that it can't tell other answers than the class. */
public final class ReadmeTest {
    private static final String FIRST_LINE = "DbFader fader = new DbFader();";
    private static final Pattern CALL =
        Pattern.compile("fader\\.(\\w+)\\((?:\\(short\\) )?(-?\\d*)\\); +// answers (-?\\d+)");

    public static void main(String[] args) {
        Sentences.holds("each call of the example answers what README.md says", ReadmeTest::example);
        Sentences.endOfTest();
    }

    private static void example() {
        List<String> lines = exampleLines();
        Sentences.due("first line of the example", lines.get(0), FIRST_LINE);
        DbFader fader = new DbFader();
        for (String line : lines.subList(1, lines.size())) {
            Matcher call = CALL.matcher(line);
            if (!call.matches()) {
                throw new IllegalStateException("not a call with its answer: " + line);
            }
            int got = answer(fader, call.group(1), call.group(2));
            Sentences.due(line, got, Integer.parseInt(call.group(3)));
        }
    }

    private static int answer(DbFader fader, String method, String argument) {
        switch (method) {
            case "apply":
                return fader.apply(Short.parseShort(argument));
            case "nudge":
                return fader.nudge(Integer.parseInt(argument));
            case "mute":
                return fader.mute();
            case "step":
                return fader.step();
            default:
                throw new IllegalStateException("no such method: " + method);
        }
    }

    private static List<String> exampleLines() {
        List<String> found = new ArrayList<>();
        boolean inside = false;
        for (String line : readmeLines()) {
            if (line.startsWith("```")) {
                inside = line.equals("```java");
            } else if (inside) {
                found.add(line);
            }
        }
        return found;
    }

    private static List<String> readmeLines() {
        try {
            return Files.readAllLines(Path.of("README.md"));
        } catch (IOException missing) {
            throw new IllegalStateException(missing);
        }
    }
}
