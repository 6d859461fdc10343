import java.io.IOException;
import java.lang.reflect.Method;
import java.nio.charset.StandardCharsets;
import java.nio.file.Files;
import java.nio.file.Path;
import java.util.ArrayList;
import java.util.Arrays;
import java.util.LinkedHashMap;
import java.util.LinkedHashSet;
import java.util.List;
import java.util.Map;
import java.util.Set;

/**
 * Answers that are due by a named sentence of a named promise. What is named must stand in the document, and at the
 * end each sentence of the document's terms and promises must have been named.
 */
final class Edges {
    static final long FAR = 4000000000000000000L;
    static final int MIN = Integer.MIN_VALUE;
    static final int MAX = Integer.MAX_VALUE;

    private static final Map<String, Method> CALLS = calls();

    /** The document's sentences by promise; those of its Terms by 0. */
    private final Map<Integer, List<String>> document = new LinkedHashMap<>();
    private final Set<String> asked = new LinkedHashSet<>();
    private String by = "";
    private int answers;
    private int answersOfSentence;
    private int wrong;

    Edges(String documentPath) throws IOException {
        String text = Files.readString(Path.of(documentPath), StandardCharsets.UTF_8);
        int promise = 0;
        for (String section : text.split("(?m)^## ")) {
            boolean terms = section.startsWith("Terms");
            if (terms || section.startsWith("Promise ")) {
                promise = terms ? 0 : promise + 1;
                document.put(promise, sentences(section.substring(section.indexOf('\n'))));
            }
        }
        if (promise != 38) {
            fail("the document has " + promise + " promises");
        }
    }

    private static List<String> sentences(String section) {
        String plain = section.replaceAll("```\\w*|`[^`]*`:", " ").replaceAll("\\s+", " ").trim();
        // A "..", as in 0 .. 9, ends no sentence.
        List<String> sentences = new ArrayList<>(List.of(plain.split("(?<=[^.\\s]\\.)\\s+")));
        sentences.removeIf(s -> s.startsWith("===="));
        return sentences;
    }

    private static Map<String, Method> calls() {
        Map<String, Method> calls = new LinkedHashMap<>();
        for (Method method : LiesBoughtBack.class.getMethods()) {
            if (method.getDeclaringClass() == LiesBoughtBack.class) {
                calls.put(method.getName(), method);
            }
        }
        return calls;
    }

    private void fail(String what) {
        wrong++;
        System.out.println(what);
    }

    /** What is asked from here on is due by these words, of the promise's own or of the Terms. */
    void by(int promise, String words) {
        closeSentence();
        by = "promise " + promise + ", \"" + words + "\"";
        List<String> found = standing(promise, words);
        if (found.isEmpty()) {
            found = standing(0, words);
        }
        if (found.size() != 1) {
            fail(by + " stands in " + found.size() + " sentences of the document");
        }
        asked.addAll(found);
    }

    private List<String> standing(int promise, String words) {
        List<String> found = new ArrayList<>();
        for (String sentence : document.getOrDefault(promise, List.of())) {
            if (sentence.contains(words)) {
                found.add(promise + " " + sentence);
            }
        }
        return found;
    }

    private void closeSentence() {
        if (!by.isEmpty() && answersOfSentence == 0) {
            fail(by + ": nothing was asked");
        }
        answersOfSentence = 0;
    }

    void everySentenceMustBeNamed() {
        for (Map.Entry<Integer, List<String>> section : document.entrySet()) {
            for (String sentence : section.getValue()) {
                String full = section.getKey() + " " + sentence;
                if (!asked.contains(full)) {
                    fail("no test names the sentence: " + full);
                }
            }
        }
    }

    void end() {
        closeSentence();
        System.out.println(answers + " answers asked by " + asked.size() + " sentences, " + wrong + " wrong");
        if (wrong > 0) {
            System.exit(1);
        }
    }

    void due(long want, long got) {
        answers++;
        answersOfSentence++;
        if (want != got) {
            fail(by + ": answered " + got + ", due is " + want + " at " + asker());
        }
    }

    private static StackTraceElement asker() {
        for (StackTraceElement step : new Throwable().getStackTrace()) {
            if (!step.getClassName().equals(Edges.class.getName())) {
                return step;
            }
        }
        return null;
    }

    void dueAll(LiesBoughtBack x, String call, int what, int... wants) {
        for (int i = 0; i < wants.length; i++) {
            due(wants[i], call(x, call, i, what));
        }
    }

    /** The call is refused, with the number, and nothing changes but how many there were. */
    void refused(State state, long want, String call, int... with) {
        LiesBoughtBack x = state.make();
        due(want, call(x, call, with));
        int number = (int) (want > 0 ? FAR - want : want);
        List<Long> wants = everything(state.make());
        wants.set(-number - 1, wants.get(-number - 1) + 1);
        dueToBeSeen(wants, x, call, with);
    }

    /** The call answers, and nothing changes by it. */
    void changesNothing(State state, String call, int... with) {
        LiesBoughtBack x = state.make();
        call(x, call, with);
        dueToBeSeen(everything(state.make()), x, call, with);
    }

    /** All that can be seen of one object is as of the other. */
    void dueAlike(LiesBoughtBack want, LiesBoughtBack x) {
        dueToBeSeen(everything(want), x, "all that was called");
    }

    private void dueToBeSeen(List<Long> wants, LiesBoughtBack x, String call, int... with) {
        answers++;
        answersOfSentence++;
        List<Long> seen = everything(x);
        if (!wants.equals(seen)) {
            fail(by + ": " + call + Arrays.toString(with) + " left " + seen + ", due is " + wants + " at " + asker());
        }
    }

    /** How the object of a test comes to be. */
    interface State {
        LiesBoughtBack make();
    }

    static LiesBoughtBack told(String... halls) {
        LiesBoughtBack x = new LiesBoughtBack();
        for (String hall : halls) {
            if (tell(x, hall) < 0) {
                throw new IllegalStateException("a hall was not told: " + hall);
            }
        }
        return x;
    }

    static int tell(LiesBoughtBack x, String hall) {
        letters(x, hall);
        return x.hall();
    }

    static void letters(LiesBoughtBack x, String letters) {
        for (int i = 0; i < letters.length(); i++) {
            x.letter(letters.charAt(i));
        }
    }

    static long call(LiesBoughtBack x, String name, int... with) {
        Object[] boxed = new Object[with.length];
        for (int i = 0; i < with.length; i++) {
            boxed[i] = with[i];
        }
        try {
            return ((Number) CALLS.get(name).invoke(x, boxed)).longValue();
        } catch (ReflectiveOperationException thrown) {
            throw new IllegalStateException(name + Arrays.toString(with), thrown);
        }
    }

    /** All that can be seen of an object, the refusals first; it is used up by it. */
    private static List<Long> everything(LiesBoughtBack x) {
        List<Long> seen = new ArrayList<>();
        for (int what = 11; what <= 16; what++) {
            seen.add((long) x.count(what));
        }
        seen.add((long) x.count(6));
        seen.add((long) x.count(7));
        hallOf(x, seen);
        // What stands in the row shows by its judging, what in the letters by their hall, what in the image behind it.
        seen.add((long) x.judge());
        seen.add((long) x.hall());
        hallOf(x, seen);
        seen.add((long) x.on());
        hallOf(x, seen);
        return seen;
    }

    private static void hallOf(LiesBoughtBack x, List<Long> seen) {
        for (int what = 0; what <= 5; what++) {
            seen.add((long) x.count(what));
        }
        int cards = x.count(0);
        int bidders = x.count(1);
        for (int card = 0; card < cards; card++) {
            for (int what = 0; what <= 7; what++) {
                seen.add((long) x.card(card, what));
            }
        }
        for (int bidder = 0; bidder < bidders; bidder++) {
            for (int what = 0; what <= 4; what++) {
                seen.add((long) x.bidder(bidder, what));
            }
        }
    }
}
