import java.math.BigInteger;
import java.util.ArrayList;
import java.util.List;
import java.util.function.IntPredicate;
import java.util.regex.Matcher;
import java.util.regex.Pattern;

/** The document once more, written another way, with the Java library: what each call should answer. */
public final class Model {
    private static final Pattern HALL = Pattern.compile(
            "(c[lkgowt]\\d\\d;|b[bserhf]\\d{4};|p\\d{4};|x\\d\\d;|r\\d;|g\\d\\d;|m\\d\\d;)+");

    /** A refusal by its number. */
    private static final class Refusal extends RuntimeException {
        private static final long serialVersionUID = 1L;
        private final int number;

        Refusal(int number) {
            super(null, null, false, false);
            this.number = number;
        }
    }

    private static final class Card {
        int number;
        char kind;
        int figure;
        int teller;
        int age;
        Bidder holder;
    }

    private static final class Bidder {
        int number;
        char kind;
        int figure;
        int purse;
        int believed = 50;
    }

    private static final class World {
        final List<Card> cards = new ArrayList<>();
        final List<Bidder> bidders = new ArrayList<>();
        final List<Card> order = new ArrayList<>();
        int month;

        World copy() {
            World w = new World();
            w.month = month;
            for (Bidder b : bidders) {
                Bidder n = new Bidder();
                n.number = b.number;
                n.kind = b.kind;
                n.figure = b.figure;
                n.purse = b.purse;
                n.believed = b.believed;
                w.bidders.add(n);
            }
            for (Card c : cards) {
                Card n = new Card();
                n.number = c.number;
                n.kind = c.kind;
                n.figure = c.figure;
                n.teller = c.teller;
                n.age = c.age;
                n.holder = c.holder == null ? null : w.bidders.get(c.holder.number);
                w.cards.add(n);
            }
            for (Card c : order) {
                w.order.add(w.cards.get(c.number));
            }
            return w;
        }

        Bidder tellerOf(Card c) {
            return c.teller < bidders.size() ? bidders.get(c.teller) : null;
        }

        int worth(Card c) {
            return worthAs(c, c.kind);
        }

        int worthAs(Card c, char kind) {
            switch (kind) {
                case 'l':
                    return c.figure + 3;
                case 'k':
                    return worthAs(c, 'l') / 2;
                case 'g':
                    return worthAs(c, 'l') * 4;
                case 'o':
                    return Math.max(worthAs(c, 'l') - c.age / 3, 0);
                case 't':
                    return worthAs(c, 'o') / 2;
                default:
                    return 0;
            }
        }

        int bid(Bidder b, Card c) {
            return Math.min(b.purse, wish(b, c, b.kind));
        }

        int wish(Bidder b, Card c, char kind) {
            boolean own = b.number == c.teller;
            switch (kind) {
                case 'b':
                    return own ? worth(c) + b.figure : worth(c) / 2;
                case 's':
                    return Math.max(wish(b, c, 'b') - 3, 0);
                case 'e':
                    Bidder t = tellerOf(c);
                    boolean twice = t != null && t != b && t.believed > b.believed;
                    return wish(b, c, 'b') * (twice ? 2 : 1);
                case 'r':
                    return wish(b, c, 'b') + 5;
                case 'h':
                    return own ? worth(c) : 0;
                default:
                    return wish(b, c, 'r') * 2;
            }
        }

        /** {who, price} or null. */
        int[] auctionOf(Card c, IntPredicate bidsAtAll) {
            List<int[]> all = new ArrayList<>();
            for (Bidder b : bidders) {
                int bid = bidsAtAll.test(b.number) ? bid(b, c) : 0;
                if (bid > 0) {
                    all.add(new int[] {b.number, bid});
                }
            }
            all.sort((x, y) -> x[1] != y[1] ? Integer.compare(y[1], x[1]) : Integer.compare(x[0], y[0]));
            if (all.isEmpty()) {
                return null;
            }
            int next = all.size() > 1 ? all.get(1)[1] : 0;
            return new int[] {all.get(0)[0], Math.min(all.get(0)[1], next + 1)};
        }

        int auction(Card c) {
            int[] deal = auctionOf(c, x -> true);
            if (deal == null) {
                return 0;
            }
            Bidder buyer = bidders.get(deal[0]);
            buyer.purse -= deal[1];
            c.holder = buyer;
            Bidder t = tellerOf(c);
            if (t == buyer) {
                t.believed = Math.min(99, t.believed + 2);
            } else if (t != null) {
                t.believed = Math.max(0, t.believed - (worth(c) / 4 + 1));
            }
            return deal[1];
        }

        int month(boolean selling) {
            month++;
            int paid = 0;
            if (selling) {
                for (Card c : order) {
                    if (c.holder == null) {
                        paid += auction(c);
                    }
                }
            }
            for (Card c : cards) {
                if (c.holder == null) {
                    c.age = Math.min(99, c.age + 1);
                }
            }
            for (Bidder b : bidders) {
                b.purse = Math.min(999, b.purse + 5);
            }
            return paid;
        }

        World on(int n) {
            for (int i = 0; i < n; i++) {
                month(true);
            }
            return this;
        }

        int heldBy(int bidder) {
            return (int) cards.stream().filter(c -> c.holder != null && c.holder.number == bidder).count();
        }

        int held() {
            return (int) cards.stream().filter(c -> c.holder != null).count();
        }

        int believed() {
            return bidders.stream().mapToInt(b -> b.believed).sum();
        }

        int purses() {
            return bidders.stream().mapToInt(b -> b.purse).sum();
        }

        int bits(java.util.function.Predicate<Card> which) {
            return cards.stream().filter(which).mapToInt(c -> 1 << c.number).sum();
        }

        int pile() {
            return bits(c -> c.holder == null);
        }
    }

    private World w = new World();
    private World kept;
    private final StringBuilder letters = new StringBuilder();
    private final List<Integer> row = new ArrayList<>();
    private final int[] refusals = new int[7];

    private static int holderOf(Card c) {
        return c.holder == null ? -9 : c.holder.number;
    }

    private interface Answer {
        long get();
    }

    private int tell(Answer answer) {
        try {
            return (int) answer.get();
        } catch (Refusal r) {
            refusals[-r.number]++;
            return r.number;
        }
    }

    private long tellLong(Answer answer) {
        try {
            return answer.get();
        } catch (Refusal r) {
            refusals[-r.number]++;
            return 4000000000000000000L - r.number;
        }
    }

    private static void refuseIf(boolean wrong, int number) {
        if (wrong) {
            throw new Refusal(number);
        }
    }

    private Card cardAt(int card) {
        refuseIf(card < 0 || card >= w.cards.size(), -1);
        return w.cards.get(card);
    }

    private Bidder bidderAt(int bidder) {
        refuseIf(bidder < 0 || bidder >= w.bidders.size(), -1);
        return w.bidders.get(bidder);
    }

    private static void within(long n, long least, long most) {
        refuseIf(n < least, -4);
        refuseIf(n > most, -6);
    }

    private static void known(int what, int count) {
        refuseIf(what < 0 || what >= count, -2);
    }

    public int letter(int c) {
        return tell(() -> {
            within(c, 0, letters.length() >= 96 ? -1 : 255);
            letters.append((char) c);
            return letters.length();
        });
    }

    public int hall() {
        String text = letters.toString();
        letters.setLength(0);
        for (int end = 1; end <= text.length(); end++) {
            Matcher m = HALL.matcher(text.substring(0, end));
            if (!m.matches() && !m.hitEnd()) {
                return -1000 - (end - 1);
            }
        }
        if (!HALL.matcher(text).matches()) {
            return -1000 - text.length();
        }
        World then = w.copy();
        int place = 0;
        int statements = 0;
        for (String s : text.split(";")) {
            if (!statement(then, s)) {
                return -2000 - place;
            }
            place += s.length() + 1;
            statements++;
        }
        w = then;
        return statements;
    }

    private static boolean statement(World v, String s) {
        int one = s.charAt(1) - '0';
        int other = s.length() > 2 ? s.charAt(2) - '0' : 0;
        switch (s.charAt(0)) {
            case 'c':
                Card c = new Card();
                c.number = v.cards.size();
                c.kind = s.charAt(1);
                c.figure = other;
                c.teller = s.charAt(3) - '0';
                v.cards.add(c);
                v.order.add(c);
                return c.number < 8 && c.teller <= 5;
            case 'b':
                Bidder b = new Bidder();
                b.number = v.bidders.size();
                b.kind = s.charAt(1);
                b.figure = other;
                b.purse = Integer.parseInt(s.substring(3));
                v.bidders.add(b);
                return b.number < 6;
            case 'p':
                if (one >= v.bidders.size()) {
                    return false;
                }
                v.bidders.get(one).purse = Integer.parseInt(s.substring(2));
                return true;
            case 'x':
                if (one >= v.cards.size() || other >= v.cards.size() || one == other) {
                    return false;
                }
                swap(v, one, other);
                return true;
            case 'r':
                if (one >= v.cards.size()) {
                    return false;
                }
                v.cards.get(one).holder = null;
                return true;
            case 'g':
                if (one >= v.cards.size() || other >= v.bidders.size()) {
                    return false;
                }
                v.cards.get(one).holder = v.bidders.get(other);
                return true;
            default:
                int n = Integer.parseInt(s.substring(1));
                if (n == 0 || n > 60 || v.month + n > 999) {
                    return false;
                }
                v.on(n);
                return true;
        }
    }

    private static void swap(World v, int one, int other) {
        java.util.Collections.swap(v.order, v.order.indexOf(v.cards.get(one)), v.order.indexOf(v.cards.get(other)));
    }

    public int card(int card, int what) {
        return tell(() -> {
            Card c = cardAt(card);
            known(what, 8);
            int[] all = {"lkgowt".indexOf(c.kind), c.figure, c.teller, c.age, holderOf(c), w.worth(c),
                w.order.indexOf(c), (int) w.bidders.stream().filter(b -> w.bid(b, c) > 0).count()};
            return all[what];
        });
    }

    public int bidder(int bidder, int what) {
        return tell(() -> {
            Bidder b = bidderAt(bidder);
            known(what, 5);
            int[] all = {"bserhf".indexOf(b.kind), b.figure, b.purse, b.believed, w.bits(c -> c.holder == b)};
            return all[what];
        });
    }

    public int bids(int bidder, int card) {
        return tell(() -> w.bid(bidderAt(bidder), cardAt(card)));
    }

    public int pays(int bidder, int v) {
        return tell(() -> {
            Bidder b = bidderAt(bidder);
            within(v, 0, 999);
            int was = b.purse;
            b.purse = v;
            return was;
        });
    }

    public int returns(int card) {
        return tell(() -> {
            Card c = cardAt(card);
            refuseIf(c.holder == null, -3);
            int was = holderOf(c);
            c.holder = null;
            return was;
        });
    }

    public int gives(int card, int bidder) {
        return tell(() -> {
            Card c = cardAt(card);
            Bidder b = bidderAt(bidder);
            int was = holderOf(c);
            c.holder = b;
            return was;
        });
    }

    public int swaps(int one, int other) {
        return tell(() -> {
            Card c = cardAt(one);
            refuseIf(cardAt(other) == c, -1);
            swap(w, one, other);
            return w.order.indexOf(c);
        });
    }

    public int sells(int card) {
        return tell(() -> {
            Card c = cardAt(card);
            refuseIf(c.holder != null, -3);
            w.auction(c);
            return holderOf(c);
        });
    }

    public int turn(int bidder, int kind, int figure) {
        return tell(() -> {
            Bidder b = bidderAt(bidder);
            known(kind, 6);
            within(figure, 0, 9);
            int was = 10 * "bserhf".indexOf(b.kind) + b.figure;
            b.kind = "bserhf".charAt(kind);
            b.figure = figure;
            return was;
        });
    }

    public int months(int n) {
        return tell(() -> {
            within(n, 1, Math.min(60, 999 - w.month));
            return w.on(n).held();
        });
    }

    public int cardThen(int card, int n) {
        return tell(() -> {
            cardAt(card);
            within(n, 0, 60);
            return holderOf(w.copy().on(n).cards.get(card));
        });
    }

    public int bidderThen(int bidder, int n, int what) {
        return tell(() -> {
            bidderAt(bidder);
            within(n, 0, 60);
            known(what, 2);
            Bidder b = w.copy().on(n).bidders.get(bidder);
            return what == 0 ? b.purse : b.believed;
        });
    }

    public int pileThen(int n) {
        return tell(() -> {
            within(n, 0, 60);
            return w.copy().on(n).pile();
        });
    }

    private int firstMonth(java.util.function.Predicate<World> is) {
        for (int n = 0; n <= 60; n++) {
            if (is.test(w.copy().on(n))) {
                return n;
            }
        }
        return -9;
    }

    public int sold(int card) {
        return tell(() -> {
            cardAt(card);
            return firstMonth(v -> v.cards.get(card).holder != null);
        });
    }

    public int gets(int card, int what) {
        return tell(() -> {
            Card c = cardAt(card);
            known(what, 2);
            int[] deal = w.auctionOf(c, x -> true);
            return deal == null ? -9 : deal[what];
        });
    }

    public int out() {
        return firstMonth(v -> v.pile() == 0);
    }

    public int ruined(int bidder) {
        return tell(() -> {
            bidderAt(bidder);
            return firstMonth(v -> v.bidders.get(bidder).believed == 0);
        });
    }

    public int purseFor(int bidder, int card) {
        return tell(() -> {
            bidderAt(bidder);
            refuseIf(cardAt(card).holder != null, -3);
            for (int v = 0; v < 100; v++) {
                World u = w.copy();
                u.bidders.get(bidder).purse = v;
                u.on(1);
                if (u.cards.get(card).holder == u.bidders.get(bidder)) {
                    return v;
                }
            }
            return -9;
        });
    }

    /** The first of choices whose world is better than the world as it is and than every other's. */
    private static int better(int base, List<int[]> choices) {
        int best = -9;
        int most = base;
        for (int[] c : choices) {
            if (c[1] > most) {
                most = c[1];
                best = c[0];
            }
        }
        return best;
    }

    public int first(int bidder, int n) {
        return tell(() -> {
            bidderAt(bidder);
            within(n, 0, 20);
            List<int[]> choices = new ArrayList<>();
            for (Card c : w.cards) {
                if (c.holder == null) {
                    World u = w.copy();
                    Card moved = u.cards.get(c.number);
                    u.order.remove(moved);
                    u.order.add(0, moved);
                    choices.add(new int[] {c.number, u.on(n).heldBy(bidder)});
                }
            }
            return better(w.copy().on(n).heldBy(bidder), choices);
        });
    }

    public int give(int n) {
        return tell(() -> {
            within(n, 0, 20);
            List<int[]> choices = new ArrayList<>();
            for (Card c : w.cards) {
                if (c.holder == null && w.tellerOf(c) != null) {
                    World u = w.copy();
                    u.cards.get(c.number).holder = u.bidders.get(c.teller);
                    choices.add(new int[] {c.number, u.on(n).believed()});
                }
            }
            return better(w.copy().on(n).believed(), choices);
        });
    }

    public int pool(int bidder, int n) {
        return tell(() -> {
            bidderAt(bidder);
            within(n, 0, 20);
            List<int[]> choices = new ArrayList<>();
            for (Bidder b : w.bidders) {
                if (b.number != bidder) {
                    World u = w.copy();
                    u.bidders.get(bidder).purse += b.purse;
                    u.bidders.get(b.number).purse = 0;
                    choices.add(new int[] {b.number, u.on(n).heldBy(bidder)});
                }
            }
            return better(w.copy().on(n).heldBy(bidder), choices);
        });
    }

    public int stay(int what) {
        return tell(() -> {
            known(what, 2);
            int[] best = {-9, -9};
            for (Bidder b : w.bidders) {
                World u = w.copy();
                u.bidders.get(b.number).purse = 0;
                int paid = u.month(true);
                if (best[0] < 0 || paid < best[1]) {
                    best = new int[] {b.number, paid};
                }
            }
            return best[what];
        });
    }

    public int richest(int what) {
        return tell(() -> {
            known(what, 3);
            List<int[]> choices = new ArrayList<>();
            if (what == 2) {
                w.cards.forEach(c -> choices.add(new int[] {c.number, w.worth(c)}));
            } else {
                w.bidders.forEach(b -> choices.add(new int[] {b.number, what == 0 ? b.purse : b.believed}));
            }
            return better(-1, choices);
        });
    }

    public int owned(int what) {
        return tell(() -> {
            known(what, 4);
            switch (what) {
                case 0:
                    return w.bits(c -> c.holder != null && c.holder.number == c.teller);
                case 1:
                    return w.bits(c -> c.holder != null && c.holder.number != c.teller);
                case 2:
                    return w.bidders.stream().filter(b -> w.cards.stream().noneMatch(c -> c.teller == b.number))
                            .mapToInt(b -> 1 << b.number).sum();
                default:
                    return w.purses();
            }
        });
    }

    public int two(int a, int b, int card) {
        return tell(() -> {
            bidderAt(a);
            refuseIf(bidderAt(b).number == a, -1);
            refuseIf(cardAt(card).holder != null, -3);
            for (int pair : new int[] {0, 1, 10, 11}) {
                int x = pair / 10;
                int y = pair % 10;
                if (want(a, card, a, x, b, y) >= want(a, card, a, 1 - x, b, y)
                        && want(b, card, a, x, b, y) >= want(b, card, a, x, b, 1 - y)) {
                    return pair;
                }
            }
            return -9;
        });
    }

    private int want(int who, int card, int a, int x, int b, int y) {
        Card c = w.cards.get(card);
        int[] deal = w.auctionOf(c, i -> i == a ? x == 1 : i == b ? y == 1 : true);
        if (deal == null) {
            return 0;
        }
        return deal[0] == who ? w.worth(c) - deal[1] : c.teller == who ? -3 : 0;
    }

    public long stutter(int bidder, int card, int n, int t, int part) {
        return tellLong(() -> {
            bidderAt(bidder);
            cardAt(card);
            refuseIf(n < 0 || t < 2, -4);
            refuseIf(n > 7 || t > 20, -6);
            known(part, 2);
            BigInteger above = likely(w, bidder, card, n, t);
            return fraction(above, BigInteger.valueOf(t).pow(n), part);
        });
    }

    private static BigInteger likely(World v, int bidder, int card, int n, int t) {
        if (n == 0) {
            return v.cards.get(card).holder == v.bidders.get(bidder) ? BigInteger.ONE : BigInteger.ZERO;
        }
        World still = v.copy();
        still.month(false);
        World sold = v.copy();
        sold.month(true);
        return likely(still, bidder, card, n - 1, t)
                .add(likely(sold, bidder, card, n - 1, t).multiply(BigInteger.valueOf(t - 1)));
    }

    private static long fraction(BigInteger above, BigInteger below, int part) {
        if (below.signum() == 0) {
            return part;
        }
        BigInteger common = above.gcd(below);
        return (part == 0 ? above : below).divide(common).longValueExact();
    }

    public long mean(int part) {
        return tellLong(() -> {
            known(part, 2);
            return fraction(BigInteger.valueOf(w.purses()), BigInteger.valueOf(w.bidders.size()), part);
        });
    }

    public int whoTold(int card, int what) {
        return tell(() -> {
            cardAt(card);
            known(what, 2);
            int bits = 0;
            for (int i = 0; i < 6; i++) {
                World u = w.copy();
                if (what == 0) {
                    u.cards.get(card).teller = i;
                } else {
                    u.cards.get(card).kind = "lkgowt".charAt(i);
                }
                u.on(1);
                boolean so = row.size() <= u.cards.size();
                for (int k = 0; so && k < row.size(); k++) {
                    int holder = holderOf(u.cards.get(k));
                    so = row.get(k) == (holder < 0 ? 9 : holder);
                }
                bits += so ? 1 << i : 0;
            }
            return bits;
        });
    }

    public int row(int v) {
        return tell(() -> {
            within(v, 0, row.size() >= 16 ? -1 : 99);
            row.add(v);
            return row.size();
        });
    }

    public int judge() {
        int answer = -9;
        for (int i = row.size() - 1; i >= 0; i--) {
            if (i >= w.cards.size() || w.worth(w.cards.get(i)) != row.get(i)) {
                answer = i;
            }
        }
        row.clear();
        return answer;
    }

    public int clear() {
        int had = row.size();
        row.clear();
        return had;
    }

    public int lots(int n, int z, int what) {
        return tell(() -> {
            within(n, 1, 20);
            known(what, 2);
            int seed = z;
            int all = 0;
            for (int i = 0; i < n; i++) {
                World u = w.copy();
                for (Bidder b : u.bidders) {
                    seed = (int) ((long) seed * 1664525L + 1013904223L);
                    b.purse = ((seed << 1) >>> 1) / 256 % 100;
                }
                u.cards.forEach(c -> c.holder = null);
                u.on(2);
                all += what == 0 ? u.held() : u.believed();
            }
            return all;
        });
    }

    public int image() {
        kept = w.copy();
        return w.month;
    }

    public int on() {
        return tell(() -> {
            refuseIf(kept == null, -3);
            w = kept.copy();
            return w.month;
        });
    }

    public int count(int what) {
        switch (what) {
            case 0:
                return w.cards.size();
            case 1:
                return w.bidders.size();
            case 2:
                return w.month;
            case 3:
                return w.pile();
            case 4:
                return w.cards.stream().mapToInt(w::worth).sum();
            case 5:
                return w.believed();
            case 6:
                return row.size();
            case 7:
                return letters.length();
            default:
                return what > 10 && what < 17 ? refusals[what - 10] : -9;
        }
    }
}
