import java.io.IOException;
import java.nio.charset.StandardCharsets;
import java.nio.file.Files;
import java.nio.file.Path;
import java.util.ArrayList;
import java.util.List;
import java.util.regex.Matcher;
import java.util.regex.Pattern;

/**
 * What README.md tells holds: its examples, each call and its answer, one behind the other on one object; and its tables
 * have what the document has. The paths of the program, the document and the readme are the arguments.
 */
public final class ReadmeTest {
    private static final Pattern EXAMPLE = Pattern.compile("x\\.(\\w+)\\(([-\\d, ]*)\\); +// (-?\\d+)\\b.*");
    private static final Pattern TELLING = Pattern.compile("tell\\(x, \"([^\"]*)\"\\);");
    private static final Pattern PROMISE = Pattern.compile("(?m)^## Promise \\d+: .*\n\n`((?:int|long) [^`]*)`: (.*)");
    private static final Pattern REFUSAL = Pattern.compile("(?<!\\w)-[1-8](?!\\d)");
    private static final Pattern REFUSED = Pattern.compile("(-\\d) ([A-Z]+): ([^.]*)\\.");
    private static final Pattern KIND = Pattern.compile("(?m)^\\| (\\d) ([A-Z ]+) \\| `(\\w)` \\|");

    private static int answers;
    private static int wrong;

    public static void main(String[] args) throws IOException {
        String document = Files.readString(Path.of(args[1]), StandardCharsets.UTF_8);
        String readme = Files.readString(Path.of(args[2]), StandardCharsets.UTF_8);
        examples(readme);
        calls(document, readme);
        refusals(document, readme);
        kinds(document, readme);
        System.out.println(answers + " things told by README.md looked at, " + wrong + " wrong");
        if (wrong > 0) {
            System.exit(1);
        }
    }

    private static void holds(boolean so, String what) {
        answers++;
        if (!so) {
            wrong++;
            System.out.println("README.md: " + what);
        }
    }

    private static void examples(String readme) {
        LiesBoughtBack x = null;
        Matcher blocks = Pattern.compile("(?s)```java\n(.*?)```").matcher(readme);
        while (blocks.find()) {
            if (blocks.group(1).startsWith("static ")) {
                continue;
            }
            for (String line : blocks.group(1).split("\n")) {
                Matcher telling = TELLING.matcher(line);
                if (line.equals("LiesBoughtBack x = new LiesBoughtBack();")) {
                    x = new LiesBoughtBack();
                } else if (telling.matches()) {
                    Edges.letters(x, telling.group(1));
                } else {
                    example(x, line);
                }
            }
        }
    }

    private static void example(LiesBoughtBack x, String line) {
        Matcher example = EXAMPLE.matcher(line);
        if (!example.matches()) {
            holds(false, "no call with its answer: " + line);
            return;
        }
        String[] told = example.group(2).isEmpty() ? new String[0] : example.group(2).split(", ");
        int[] with = new int[told.length];
        for (int i = 0; i < told.length; i++) {
            with[i] = Integer.parseInt(told[i]);
        }
        long answer = Edges.call(x, example.group(1), with);
        holds(answer == Long.parseLong(example.group(3)), "the answer is " + answer + ": " + line);
    }

    /** Each call of the document has its row, with the same refusals in the same order. */
    private static void calls(String document, String readme) {
        Matcher promise = PROMISE.matcher(document);
        int calls = 0;
        while (promise.find()) {
            calls++;
            Matcher row = Pattern.compile("(?m)^\\| `" + Pattern.quote(promise.group(1)) + "` \\| .+ \\|(.*)\\|$").matcher(readme);
            boolean there = row.find();
            holds(there, "no row of " + promise.group(1));
            if (there) {
                List<String> wants = refusalsIn(promise.group(2).replace("REFUSALS -1 .. -6", ""));
                List<String> told = refusalsIn(row.group(1));
                holds(wants.equals(told), promise.group(1) + " refuses " + wants + ", told are " + told);
            }
        }
        holds(calls == 37, "the document has " + calls + " calls");
    }

    private static List<String> refusalsIn(String text) {
        List<String> found = new ArrayList<>();
        Matcher refusal = REFUSAL.matcher(text);
        while (refusal.find()) {
            found.add(refusal.group());
        }
        return found;
    }

    private static void refusals(String document, String readme) {
        Matcher refused = REFUSED.matcher(document.substring(document.indexOf("REFUSALS (the call answers")));
        int numbers = 0;
        while (refused.find()) {
            numbers++;
            long far = Edges.FAR - Long.parseLong(refused.group(1));
            String row = "| " + refused.group(1) + " | " + refused.group(2) + " | ";
            holds(readme.contains("\n" + row), "no row of the refusal " + refused.group(1));
            holds(readme.contains(" | " + far + " |\n"), "no long of the refusal " + refused.group(1));
        }
        holds(numbers == 5, "the document has " + numbers + " refusals");
    }

    /** The kinds' numbers, letters and names are those of the document and of the program; the cards' stand first. */
    private static void kinds(String document, String readme) {
        Matcher kind = KIND.matcher(readme);
        int kinds = 0;
        while (kind.find()) {
            int number = Integer.parseInt(kind.group(1));
            String letter = kind.group(3);
            boolean ofCards = kinds < 6;
            LiesBoughtBack x = Edges.told(ofCards ? "c" + letter + "00;" : "b" + letter + "0000;");
            holds((ofCards ? x.card(0, 0) : x.bidder(0, 0)) == number, kind.group());
            holds(number == kinds % 6 && document.contains(" " + letter + " " + kind.group(2)), "another name: " + kind.group());
            kinds++;
        }
        holds(kinds == 12, kinds + " kinds are told");
    }
}
