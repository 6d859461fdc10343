import java.lang.reflect.InvocationTargetException;
import java.lang.reflect.Method;
import java.util.ArrayList;
import java.util.Arrays;
import java.util.Comparator;
import java.util.List;
import java.util.Random;
import java.util.TreeMap;

/** Seeded runs of up to 512 calls: the program must answer what the Model answers, and never throw. */
public final class AgainstModelTest {
    private static final int RUNS = 3000;
    private static final int[] EXTREMES = {-1, -9, 10, 16, 17, 61, 99, 100, 255, 256, 998, 999, 1000,
        Integer.MAX_VALUE, Integer.MIN_VALUE, 1 << 20, -1000};

    private final Random random;
    private final LiesBoughtBack program = new LiesBoughtBack();
    private final Model model = new Model();
    private final List<String> told = new ArrayList<>();
    private int calls;
    private int hallCards;
    private int hallBidders;

    private AgainstModelTest(long seed) {
        random = new Random(seed);
    }

    public static void main(String[] args) throws Exception {
        TreeMap<String, Integer> usual = new TreeMap<>();
        int wrong = 0;
        for (int run = 0; run < RUNS && wrong < 5; run++) {
            AgainstModelTest test = new AgainstModelTest(run);
            if (!test.run(usual)) {
                wrong++;
                System.out.println("run " + run + ": " + test.told);
            }
        }
        if (Arrays.asList(args).contains("verbose")) {
            usual.forEach((name, n) -> System.out.println(name + " not refused, not -9: " + n));
        }
        if (wrong > 0) {
            System.exit(1);
        }
    }

    private boolean run(TreeMap<String, Integer> usual) throws Exception {
        Method[] methods = LiesBoughtBack.class.getDeclaredMethods();
        methods = Arrays.stream(methods).filter(m -> java.lang.reflect.Modifier.isPublic(m.getModifiers()))
                .sorted(Comparator.comparing(Method::getName)).toArray(Method[]::new);
        int length = 20 + random.nextInt(492);
        if (!tellHall()) {
            return false;
        }
        while (calls < length) {
            int which = random.nextInt(methods.length + 2);
            if (which >= methods.length) {
                if (calls < 400 && random.nextInt(3) == 0 && !tellHall()) {
                    return false;
                }
            } else if (!call(methods[which], usual)) {
                return false;
            }
            // What is asked of cards in the pile needs some there, and purses to bid for them.
            if (random.nextInt(3) == 0 && !refill()) {
                return false;
            }
        }
        return true;
    }

    private boolean refill() throws Exception {
        Method returns = LiesBoughtBack.class.getMethod("returns", int.class);
        Method pays = LiesBoughtBack.class.getMethod("pays", int.class, int.class);
        for (int card = 0; card < program.count(0); card++) {
            if (random.nextInt(2) == 0 && !same(returns, new Object[] {card}, null)) {
                return false;
            }
        }
        for (int bidder = 0; bidder < program.count(1); bidder++) {
            if (random.nextInt(3) == 0 && !same(pays, new Object[] {bidder, random.nextInt(30)}, null)) {
                return false;
            }
        }
        return true;
    }

    private boolean call(Method method, TreeMap<String, Integer> usual) throws Exception {
        Object[] with = new Object[method.getParameterCount()];
        for (int i = 0; i < with.length; i++) {
            with[i] = argument(method.getName(), i);
        }
        return same(method, with, usual);
    }

    private boolean same(Method method, Object[] with, TreeMap<String, Integer> usual) throws Exception {
        Method due = Model.class.getMethod(method.getName(), method.getParameterTypes());
        long want = ((Number) due.invoke(model, with)).longValue();
        String call = method.getName() + Arrays.toString(with);
        long got;
        try {
            got = ((Number) method.invoke(program, with)).longValue();
        } catch (InvocationTargetException thrown) {
            told.add(call + " threw " + thrown.getCause() + ", due " + want);
            return false;
        }
        calls++;
        told.add(call + " -> " + got);
        if (got != want) {
            told.add("due is " + want);
        }
        if (usual != null && want >= 0 && want < 4000000000000000000L) {
            usual.merge(method.getName(), 1, Integer::sum);
        }
        return got == want;
    }

    private int argument(String name, int place) {
        if (random.nextInt(40) == 0) {
            return EXTREMES[random.nextInt(EXTREMES.length)];
        }
        switch (name) {
            case "letter":
                return random.nextInt(256);
            case "months":
                return random.nextInt(random.nextInt(8) == 0 ? 62 : 4);
            case "pays":
                return place == 0 ? random.nextInt(7) : random.nextInt(random.nextInt(4) == 0 ? 1001 : 40);
            case "lots":
                return place == 0 ? random.nextInt(22) : place == 1 ? random.nextInt() : random.nextInt(3);
            case "row":
                return random.nextInt(3) == 0 ? 9 : random.nextInt(random.nextInt(3) == 0 ? 101 : 7);
            case "count":
                return random.nextInt(18);
            case "turn":
                return place == 2 ? random.nextInt(11) : random.nextInt(7);
            case "stutter":
                return place == 2 ? random.nextInt(8) : place == 3 ? 2 + random.nextInt(19)
                        : place == 4 ? random.nextInt(3) : random.nextInt(6);
            case "cardThen":
            case "bidderThen":
                return place == 1 ? random.nextInt(random.nextInt(3) == 0 ? 62 : 5)
                        : random.nextInt(place == 2 ? 3 : 7);
            case "pileThen":
                return random.nextInt(random.nextInt(3) == 0 ? 62 : 5);
            case "first":
            case "pool":
                return place == 0 ? random.nextInt(6) : random.nextInt(random.nextInt(3) == 0 ? 22 : 5);
            case "give":
                return random.nextInt(random.nextInt(3) == 0 ? 22 : 5);
            case "mean":
            case "stay":
                return random.nextInt(3);
            case "card":
                return random.nextInt(9);
            default:
                return random.nextInt(7);
        }
    }

    private boolean tellHall() throws Exception {
        StringBuilder text = new StringBuilder();
        int statements = 1 + random.nextInt(16);
        hallCards = program.count(0);
        hallBidders = program.count(1);
        for (int i = 0; i < statements; i++) {
            text.append(statement());
        }
        if (random.nextInt(12) == 0) {
            text.setCharAt(random.nextInt(text.length()), "clbspxrgm;0159".charAt(random.nextInt(14)));
        }
        if (random.nextInt(20) == 0) {
            text.setLength(random.nextInt(text.length()));
        }
        Method letter = LiesBoughtBack.class.getMethod("letter", int.class);
        for (int i = 0; i < text.length(); i++) {
            if (!same(letter, new Object[] {(int) text.charAt(i)}, null)) {
                return false;
            }
        }
        return same(LiesBoughtBack.class.getMethod("hall"), new Object[0], null);
    }

    /** Mostly one that can come: cards and bidders are counted as the text goes on. */
    private String statement() {
        boolean amiss = random.nextInt(60) == 0;
        int which = random.nextInt(30);
        if (which < 9 && (hallCards < 8 || amiss)) {
            hallCards++;
            return "c" + "lkgowt".charAt(random.nextInt(6)) + random.nextInt(10) + random.nextInt(amiss ? 10 : 6) + ";";
        }
        if (which < 18 && (hallBidders < 6 || amiss)) {
            hallBidders++;
            return "b" + "bserhf".charAt(random.nextInt(6)) + random.nextInt(10)
                    + String.format("%03d", random.nextInt(random.nextInt(3) == 0 ? 1000 : 40)) + ";";
        }
        int card = amiss ? random.nextInt(10) : random.nextInt(Math.max(1, hallCards)) % 10;
        int bidder = amiss ? random.nextInt(10) : random.nextInt(Math.max(1, hallBidders)) % 10;
        if (hallBidders > 0 && which % 5 == 0 || amiss) {
            return "p" + bidder + String.format("%03d", random.nextInt(100)) + ";";
        }
        if (hallCards > 1 && which % 5 == 1) {
            return "x" + card + (amiss ? card : (card + 1) % hallCards % 10) + ";";
        }
        if (hallCards > 0 && which % 5 == 2) {
            return "r" + card + ";";
        }
        if (hallCards > 0 && hallBidders > 0 && which % 5 == 3) {
            return "g" + card + bidder + ";";
        }
        return "m" + String.format("%02d", amiss ? random.nextInt(100) : 1 + random.nextInt(3)) + ";";
    }
}
