import java.io.IOException;
import java.nio.charset.StandardCharsets;
import java.nio.file.Files;
import java.nio.file.Path;
import java.util.Arrays;
import java.util.Map;
import java.util.Set;
import java.util.TreeMap;
import java.util.TreeSet;
import java.util.regex.Matcher;
import java.util.regex.Pattern;

/** What of LANGUAGE.md can be seen from the program's words; the program's path is the argument. */
public final class LanguageTest {
    private static final String[] NEVER = {"throw", "throws", "try", "catch", "finally", "synchronized", "assert", "import",
        "package", "protected", "instanceof", "native", "volatile", "lambda", "NaN", "Object", "System\\.out", "equals",
        "hashCode", "toString", "\\w+Exact", "Exception", "Thread", "Random", "while", "null\\)\\.", "extends", "implements"};
    private static final Set<String> FACE = new TreeSet<>(Arrays.asList("letter", "hall", "card", "bidder", "bids", "pays",
            "returns", "gives", "swaps", "sells", "turn", "months", "cardThen", "bidderThen", "pileThen", "sold", "gets",
            "out", "ruined", "purseFor", "first", "give", "pool", "stay", "richest", "owned", "two", "stutter", "mean",
            "whoTold", "row", "judge", "clear", "lots", "image", "on", "count"));

    private static int wrong;

    private static void fault(String what) {
        wrong++;
        System.out.println("LANGUAGE.md: " + what);
    }

    public static void main(String[] args) throws IOException {
        if (args.length == 0) {
            fault("no path of the program was told");
            System.exit(1);
        }
        String source = Files.readString(Path.of(args[0]), StandardCharsets.ISO_8859_1);
        if (!source.chars().allMatch(c -> c < 128)) {
            fault("a sign above 127");
        }
        String code = source.replaceAll("(?s)/\\*.*?\\*/", " ").replaceAll("//[^\n]*", " ").replaceAll("\"[^\"]*\"", "\"\"");
        for (String word : NEVER) {
            if (Pattern.compile("(?<!\\w)" + word + "(?!\\w)").matcher(code).find()) {
                fault("the word " + word);
            }
        }
        if (code.contains("->") || code.contains("::") || code.contains("@")) {
            fault("a lambda, a method reference or an annotation");
        }
        face(code);
        indexes(code);
        lengths(code);
        library(code);
        sizes(code);
        chains(code);
        if (wrong > 0) {
            System.exit(1);
        }
    }

    private static void face(String code) {
        Set<String> open = names(code, "(?m)^    public (?:int|long) (\\w+)\\(");
        if (!open.equals(FACE)) {
            fault("the face is " + open);
        }
        if (Pattern.compile("\\bpublic\\b").matcher(code).results().count() != FACE.size() + 2) {
            fault("something else is public");
        }
        for (String name : names(code, "private (?:static )?[\\w\\[\\]]+ (\\w+)\\(")) {
            if (FACE.contains(name)) {
                fault("a private method is named as a public one: " + name);
            }
        }
        Matcher members = Pattern.compile("(?m)^    (\\w+) [^;{=]*[;{=(]").matcher(code);
        while (members.find()) {
            if (!members.group(1).equals("public") && !members.group(1).equals("private")) {
                fault("a member neither public nor private: " + members.group());
            }
        }
        Matcher statics = Pattern.compile("(?m)\\bstatic (?!final)[^(;]*;").matcher(code);
        while (statics.find()) {
            fault("a static field that is not final: " + statics.group());
        }
    }

    /** Only the helpers that look at an index first may use one, and rows are made by constructors alone. */
    private static void indexes(String code) {
        long uses = Pattern.compile("\\w\\[\\w").matcher(code.replaceAll("new int\\[", "new int (")).results().count();
        if (uses != 2) {
            fault(uses + " uses of an index, not just those in at and put");
        }
        for (String line : code.split("\n")) {
            if (line.contains("new ") && !line.matches(" +\\w+ = new (Hall\\(\\)|int\\[[A-Z0-9]+\\]);")) {
                fault("something is made: " + line.trim());
            }
            Matcher divisor = Pattern.compile("(?<= )[/%] (\\S+?)(?=[;), ])").matcher(line);
            while (divisor.find()) {
                if (!divisor.group(1).matches("\\d+|DEAL|rest|common")) {
                    fault("a divisor not looked at: " + line.trim());
                }
            }
        }
    }

    private static void lengths(String code) {
        String[] lines = code.split("\n");
        String head = "";
        int start = 0;
        for (int i = 0; i < lines.length; i++) {
            if (lines[i].matches(" {4,8}(public|private) .*\\(.*\\) \\{")) {
                head = lines[i].trim();
                start = i;
                if (head.split(",").length > 7) {
                    fault("more than seven parameters: " + head);
                }
            }
            if (lines[i].matches(" {4,8}\\}") && i - start > 60 && !head.isEmpty()) {
                fault("a long method: " + head);
            }
            if (lines[i].matches(" {4,8}\\}")) {
                head = "";
            }
        }
    }

    private static void library(String code) {
        Matcher use = Pattern.compile("\\b([A-Z]\\w*)\\.(\\w+)").matcher(code);
        while (use.find()) {
            if (!use.group().matches("Math\\.(min|max)|Integer\\.bitCount|System\\.arraycopy|\\w+_KINDS\\.indexOf")) {
                fault("what LANGUAGE.md does not list: " + use.group());
            }
        }
        Set<String> own = names(code, "private (?:static )?[\\w\\[\\]]+ (\\w+)\\(");
        for (String called : names(code, "\\b[a-z]\\w*\\.(\\w+)\\(")) {
            if (!own.contains(called) && !called.matches("length|charAt|isEmpty")) {
                fault("what LANGUAGE.md does not list: " + called);
            }
        }
        Matcher type = Pattern.compile("\\b(double|float|ArrayList|List|Iterator|StringBuilder|Integer|Long) \\w").matcher(code);
        while (type.find()) {
            fault("a type that the program does without: " + type.group());
        }
    }

    /** Fields beside the constants, and classes. */
    private static void sizes(String code) {
        int hall = code.indexOf("class Hall");
        for (String part : new String[] {code.substring(0, hall), code.substring(hall)}) {
            long fields = Pattern.compile("(?m)^ {4,8}private (?!static)[\\w\\[\\] ]+;").matcher(part).results().count();
            if (fields < 5 || fields > 20) {
                fault(fields + " fields in one class");
            }
        }
        if (Pattern.compile("\\b(class|enum|record|interface) \\w").matcher(code).results().count() != 2) {
            fault("another class");
        }
    }

    /** No method calls itself in the end, and calls go at most eight deep. */
    private static void chains(String code) {
        Map<String, String> bodies = new TreeMap<>();
        String head = "^( {4,8})(?:public|private) (?:static )?[\\w\\[\\]]+ (\\w+)\\([^)]*\\) \\{";
        Matcher method = Pattern.compile("(?ms)" + head + "(.*?)^\\1\\}").matcher(code);
        while (method.find()) {
            if (bodies.put(method.group(2), method.group(3)) != null) {
                fault("two methods are named " + method.group(2));
            }
        }
        if (bodies.size() < 80) {
            fault("only " + bodies.size() + " methods were found");
        }
        Map<String, Integer> depths = new TreeMap<>();
        for (String name : bodies.keySet()) {
            int depth = depth(name, bodies, depths, 0);
            if (depth > 8) {
                fault(name + " calls " + depth + " deep");
            }
        }
    }

    private static int depth(String name, Map<String, String> bodies, Map<String, Integer> depths, int open) {
        if (open > 20) {
            return open;
        }
        Integer known = depths.get(name);
        if (known != null) {
            return known;
        }
        int deepest = 0;
        Matcher call = Pattern.compile("\\b(\\w+)\\(").matcher(bodies.get(name));
        while (call.find()) {
            if (bodies.containsKey(call.group(1))) {
                deepest = Math.max(deepest, depth(call.group(1), bodies, depths, open + 1));
            }
        }
        depths.put(name, deepest + 1);
        return deepest + 1;
    }

    private static Set<String> names(String code, String pattern) {
        Set<String> names = new TreeSet<>();
        Matcher m = Pattern.compile(pattern).matcher(code);
        while (m.find()) {
            names.add(m.group(1));
        }
        return names;
    }
}
