/**
 * Here one buys back one's lies: a hall told in letters, auctions of lies on cards among bidders
 * with purses, and what would come of them, answered in mind.
 */
public final class LiesBoughtBack {
    private static final int CARDS = 8;
    private static final int BIDDERS = 6;
    private static final int LETTERS = 96;
    private static final int NUMBERS = 16;
    private static final int KINDS = 6;
    private static final int TOP_MONTH = 999;
    private static final int TOP_PURSE = 999;
    private static final int TOP_BELIEVED = 99;
    private static final int TOP_AGE = 99;
    private static final int FIRST_BELIEVED = 50;
    private static final int TOP_MONTHS = 60;
    private static final int TOP_PLAN = 20;
    private static final int TOP_STUTTER = 7;
    private static final int TOP_NUMBER = 99;

    private static final int NONE = -9;
    private static final int NOBODY_IN_ROW = 9;
    private static final int DEAL = 1000;

    private static final int NOBODY = -1;
    private static final int OTHER = -2;
    private static final int STATE = -3;
    private static final int BELOW = -4;
    private static final int ROOM = -6;
    private static final long FAR = 4000000000000000000L;

    private static final int KIND_ONE = 1;
    private static final int GREAT = 2;
    private static final int OLD = 3;
    private static final int WHITE = 4;
    private static final int TRUE = 5;

    private static final int SHY = 1;
    private static final int ENEMY = 2;
    private static final int RICH = 3;
    private static final int HUSBAND = 4;
    private static final int FOOL = 5;

    /** Letters of kinds, each at the place of its number. */
    private static final String CARD_KINDS = "lkgowt";
    private static final String BIDDER_KINDS = "bserhf";

    private final Hall now;
    private final Hall mind;
    private final Hall kept;
    private boolean taken;
    private final int[] letters;
    private int letterCount;
    private final int[] numbers;
    private int numberCount;
    private final int[] refused;

    public LiesBoughtBack() {
        now = new Hall();
        mind = new Hall();
        kept = new Hall();
        letters = new int[LETTERS];
        numbers = new int[NUMBERS];
        refused = new int[7];
    }

    // ---- what changes the hall

    public int letter(int c) {
        if (c < 0) {
            return refuse(BELOW);
        }
        if (c > 255 || letterCount >= LETTERS) {
            return refuse(ROOM);
        }
        put(letters, letterCount, c);
        letterCount++;
        return letterCount;
    }

    public int hall() {
        int length = letterCount;
        letterCount = 0;
        int wrong = wrongLetter(length);
        if (wrong >= 0) {
            return -1000 - wrong;
        }
        // The statements come in mind at first: with a fault nothing may have changed.
        mind.become(now);
        int statements = 0;
        for (int i = 0; i < length; i++) {
            if (i == 0 || at(letters, i - 1) == ';') {
                if (!comes(i)) {
                    return -2000 - i;
                }
                statements++;
            }
        }
        now.become(mind);
        return statements;
    }

    public int pays(int bidder, int v) {
        if (!now.hasBidder(bidder)) {
            return refuse(NOBODY);
        }
        int amiss = beyond(v, 0, TOP_PURSE);
        if (amiss != 0) {
            return refuse(amiss);
        }
        int was = at(now.purse, bidder);
        put(now.purse, bidder, v);
        return was;
    }

    public int returns(int card) {
        if (!now.hasCard(card)) {
            return refuse(NOBODY);
        }
        if (now.inPile(card)) {
            return refuse(STATE);
        }
        int was = at(now.holder, card);
        put(now.holder, card, NONE);
        return was;
    }

    public int gives(int card, int bidder) {
        if (!now.hasCard(card) || !now.hasBidder(bidder)) {
            return refuse(NOBODY);
        }
        int was = at(now.holder, card);
        put(now.holder, card, bidder);
        return was;
    }

    public int swaps(int one, int other) {
        if (!now.changePlaces(one, other)) {
            return refuse(NOBODY);
        }
        return now.placeOf(one);
    }

    public int sells(int card) {
        if (!now.hasCard(card)) {
            return refuse(NOBODY);
        }
        if (!now.inPile(card)) {
            return refuse(STATE);
        }
        now.auction(card);
        return at(now.holder, card);
    }

    public int turn(int bidder, int kind, int figure) {
        if (!now.hasBidder(bidder)) {
            return refuse(NOBODY);
        }
        if (kind < 0 || kind >= KINDS) {
            return refuse(OTHER);
        }
        int amiss = beyond(figure, 0, 9);
        if (amiss != 0) {
            return refuse(amiss);
        }
        int was = 10 * at(now.bidderKind, bidder) + at(now.bidderFigure, bidder);
        put(now.bidderKind, bidder, kind);
        put(now.bidderFigure, bidder, figure);
        return was;
    }

    public int months(int n) {
        if (n < 1) {
            return refuse(BELOW);
        }
        if (!now.hasTimeFor(n)) {
            return refuse(ROOM);
        }
        now.goOn(n, true);
        return now.heldCount();
    }

    // ---- what is now

    public int card(int card, int what) {
        if (!now.hasCard(card)) {
            return refuse(NOBODY);
        }
        switch (what) {
            case 0:
                return at(now.cardKind, card);
            case 1:
                return at(now.cardFigure, card);
            case 2:
                return at(now.teller, card);
            case 3:
                return at(now.age, card);
            case 4:
                return at(now.holder, card);
            case 5:
                return now.worth(card);
            case 6:
                return now.placeOf(card);
            case 7:
                return now.rivals(card);
            default:
                return refuse(OTHER);
        }
    }

    public int bidder(int bidder, int what) {
        if (!now.hasBidder(bidder)) {
            return refuse(NOBODY);
        }
        switch (what) {
            case 0:
                return at(now.bidderKind, bidder);
            case 1:
                return at(now.bidderFigure, bidder);
            case 2:
                return at(now.purse, bidder);
            case 3:
                return at(now.believed, bidder);
            case 4:
                return now.heldBits(bidder);
            default:
                return refuse(OTHER);
        }
    }

    public int bids(int bidder, int card) {
        if (!now.hasBidder(bidder) || !now.hasCard(card)) {
            return refuse(NOBODY);
        }
        return now.most(bidder, card, now.worth(card));
    }

    public int gets(int card, int what) {
        if (!now.hasCard(card)) {
            return refuse(NOBODY);
        }
        if (what < 0 || what > 1) {
            return refuse(OTHER);
        }
        int deal = now.deal(card, 0);
        if (deal < 0) {
            return NONE;
        }
        return what == 0 ? deal / DEAL : deal % DEAL;
    }

    public int richest(int what) {
        if (what < 0 || what > 2) {
            return refuse(OTHER);
        }
        int size = what == 2 ? now.cards : now.bidders;
        int who = NONE;
        int most = -1;
        for (int i = 0; i < size; i++) {
            int has = riches(i, what);
            if (has > most) {
                most = has;
                who = i;
            }
        }
        return who;
    }

    public int owned(int what) {
        switch (what) {
            case 0:
                return now.ownBits();
            case 1:
                return now.allCardBits() & ~now.pileBits() & ~now.ownBits();
            case 2:
                return now.cleanBits();
            case 3:
                return now.allPurses();
            default:
                return refuse(OTHER);
        }
    }

    public long mean(int part) {
        if (part < 0 || part > 1) {
            return refuseFar(OTHER);
        }
        return inLeastTerms(now.allPurses(), now.bidders, part);
    }

    public int count(int what) {
        switch (what) {
            case 0:
                return now.cards;
            case 1:
                return now.bidders;
            case 2:
                return now.month;
            case 3:
                return now.pileBits();
            case 4:
                return now.allWorth();
            case 5:
                return now.allBelieved();
            case 6:
                return numberCount;
            case 7:
                return letterCount;
            default:
                return what >= 11 && what <= 16 ? at(refused, what - 10) : NONE;
        }
    }

    // ---- what would be

    public int cardThen(int card, int n) {
        if (!now.hasCard(card)) {
            return refuse(NOBODY);
        }
        int amiss = beyond(n, 0, TOP_MONTHS);
        if (amiss != 0) {
            return refuse(amiss);
        }
        mind.become(now);
        mind.goOn(n, true);
        return at(mind.holder, card);
    }

    public int bidderThen(int bidder, int n, int what) {
        if (!now.hasBidder(bidder)) {
            return refuse(NOBODY);
        }
        int amiss = beyond(n, 0, TOP_MONTHS);
        if (amiss != 0) {
            return refuse(amiss);
        }
        if (what < 0 || what > 1) {
            return refuse(OTHER);
        }
        mind.become(now);
        mind.goOn(n, true);
        return what == 0 ? at(mind.purse, bidder) : at(mind.believed, bidder);
    }

    public int pileThen(int n) {
        int amiss = beyond(n, 0, TOP_MONTHS);
        if (amiss != 0) {
            return refuse(amiss);
        }
        mind.become(now);
        mind.goOn(n, true);
        return mind.pileBits();
    }

    public int sold(int card) {
        if (!now.hasCard(card)) {
            return refuse(NOBODY);
        }
        mind.become(now);
        for (int n = 0; n <= TOP_MONTHS; n++) {
            if (!mind.inPile(card)) {
                return n;
            }
            mind.goOn(1, true);
        }
        return NONE;
    }

    public int out() {
        mind.become(now);
        for (int n = 0; n <= TOP_MONTHS; n++) {
            if (mind.pileBits() == 0) {
                return n;
            }
            mind.goOn(1, true);
        }
        return NONE;
    }

    public int ruined(int bidder) {
        if (!now.hasBidder(bidder)) {
            return refuse(NOBODY);
        }
        mind.become(now);
        for (int n = 0; n <= TOP_MONTHS; n++) {
            if (at(mind.believed, bidder) == 0) {
                return n;
            }
            mind.goOn(1, true);
        }
        return NONE;
    }

    public int lots(int n, int z, int what) {
        int amiss = beyond(n, 1, TOP_PLAN);
        if (amiss != 0) {
            return refuse(amiss);
        }
        if (what < 0 || what > 1) {
            return refuse(OTHER);
        }
        int seed = z;
        int all = 0;
        for (int i = 0; i < n; i++) {
            mind.become(now);
            seed = mind.drawPurses(seed);
            mind.allToPile();
            mind.goOn(2, true);
            all += what == 0 ? mind.heldCount() : mind.allBelieved();
        }
        return all;
    }

    public long stutter(int bidder, int card, int n, int t, int part) {
        if (!now.hasBidder(bidder) || !now.hasCard(card)) {
            return refuseFar(NOBODY);
        }
        if (n < 0 || t < 2) {
            return refuseFar(BELOW);
        }
        if (n > TOP_STUTTER || t > 20) {
            return refuseFar(ROOM);
        }
        if (part < 0 || part > 1) {
            return refuseFar(OTHER);
        }
        long all = 1;
        for (int i = 0; i < n; i++) {
            all *= t;
        }
        long likely = 0;
        for (int way = 0; way < 1 << n; way++) {
            long weight = goStuttering(card, n, t, way);
            if (at(mind.holder, card) == bidder) {
                likely += weight;
            }
        }
        return inLeastTerms(likely, all, part);
    }

    // ---- what one had better do

    public int purseFor(int bidder, int card) {
        if (!now.hasBidder(bidder) || !now.hasCard(card)) {
            return refuse(NOBODY);
        }
        if (!now.inPile(card)) {
            return refuse(STATE);
        }
        for (int v = 0; v <= 99; v++) {
            mind.become(now);
            put(mind.purse, bidder, v);
            mind.goOn(1, true);
            if (at(mind.holder, card) == bidder) {
                return v;
            }
        }
        return NONE;
    }

    public int first(int bidder, int n) {
        if (!now.hasBidder(bidder)) {
            return refuse(NOBODY);
        }
        int amiss = beyond(n, 0, TOP_PLAN);
        if (amiss != 0) {
            return refuse(amiss);
        }
        mind.become(now);
        mind.goOn(n, true);
        int most = mind.heldBy(bidder);
        int best = NONE;
        for (int i = 0; i < now.cards; i++) {
            if (now.inPile(i)) {
                mind.become(now);
                mind.toFront(i);
                mind.goOn(n, true);
                int held = mind.heldBy(bidder);
                if (held > most) {
                    most = held;
                    best = i;
                }
            }
        }
        return best;
    }

    public int give(int n) {
        int amiss = beyond(n, 0, TOP_PLAN);
        if (amiss != 0) {
            return refuse(amiss);
        }
        mind.become(now);
        mind.goOn(n, true);
        int most = mind.allBelieved();
        int best = NONE;
        for (int i = 0; i < now.cards; i++) {
            int teller = at(now.teller, i);
            if (now.inPile(i) && now.hasBidder(teller)) {
                mind.become(now);
                put(mind.holder, i, teller);
                mind.goOn(n, true);
                int believed = mind.allBelieved();
                if (believed > most) {
                    most = believed;
                    best = i;
                }
            }
        }
        return best;
    }

    public int pool(int bidder, int n) {
        if (!now.hasBidder(bidder)) {
            return refuse(NOBODY);
        }
        int amiss = beyond(n, 0, TOP_PLAN);
        if (amiss != 0) {
            return refuse(amiss);
        }
        mind.become(now);
        mind.goOn(n, true);
        int most = mind.heldBy(bidder);
        int best = NONE;
        for (int i = 0; i < now.bidders; i++) {
            if (i != bidder) {
                mind.become(now);
                mind.pourPurse(i, bidder);
                mind.goOn(n, true);
                int held = mind.heldBy(bidder);
                if (held > most) {
                    most = held;
                    best = i;
                }
            }
        }
        return best;
    }

    public int stay(int what) {
        if (what < 0 || what > 1) {
            return refuse(OTHER);
        }
        int who = NONE;
        int least = NONE;
        for (int i = 0; i < now.bidders; i++) {
            mind.become(now);
            put(mind.purse, i, 0);
            int paid = mind.goOn(1, true);
            if (who == NONE || paid < least) {
                who = i;
                least = paid;
            }
        }
        return what == 0 ? who : least;
    }

    public int two(int a, int b, int card) {
        if (!now.hasBidder(a) || !now.hasBidder(b) || a == b || !now.hasCard(card)) {
            return refuse(NOBODY);
        }
        if (!now.inPile(card)) {
            return refuse(STATE);
        }
        for (int one = 0; one <= 1; one++) {
            for (int other = 0; other <= 1; other++) {
                int away = away(a, one) | away(b, other);
                boolean content = now.gain(a, card, away) >= now.gain(a, card, away ^ 1 << a)
                        && now.gain(b, card, away) >= now.gain(b, card, away ^ 1 << b);
                if (content) {
                    return 10 * one + other;
                }
            }
        }
        return NONE;
    }

    // ---- the row

    public int row(int v) {
        if (v < 0) {
            return refuse(BELOW);
        }
        if (v > TOP_NUMBER || numberCount >= NUMBERS) {
            return refuse(ROOM);
        }
        put(numbers, numberCount, v);
        numberCount++;
        return numberCount;
    }

    public int clear() {
        int had = numberCount;
        numberCount = 0;
        return had;
    }

    public int judge() {
        int wrong = NONE;
        for (int i = 0; i < numberCount && wrong == NONE; i++) {
            if (!now.hasCard(i) || now.worth(i) != at(numbers, i)) {
                wrong = i;
            }
        }
        numberCount = 0;
        return wrong;
    }

    public int whoTold(int card, int what) {
        if (!now.hasCard(card)) {
            return refuse(NOBODY);
        }
        if (what < 0 || what > 1) {
            return refuse(OTHER);
        }
        int bits = 0;
        for (int guess = 0; guess < 6; guess++) {
            mind.become(now);
            put(what == 0 ? mind.teller : mind.cardKind, card, guess);
            mind.goOn(1, true);
            if (rowTellsHolders()) {
                bits |= 1 << guess;
            }
        }
        return bits;
    }

    // ---- the image

    public int image() {
        kept.become(now);
        taken = true;
        return now.month;
    }

    public int on() {
        if (!taken) {
            return refuse(STATE);
        }
        now.become(kept);
        return now.month;
    }

    // ---- refusals

    private int refuse(int number) {
        put(refused, -number, at(refused, -number) + 1);
        return number;
    }

    /** The refusal of a number outside its bounds; 0 within them. */
    private static int beyond(int n, int least, int greatest) {
        if (n < least) {
            return BELOW;
        }
        return n > greatest ? ROOM : 0;
    }

    private long refuseFar(int number) {
        return FAR - refuse(number);
    }

    // ---- the telling of a hall

    /** The place of the first letter with which no hall can go on, or -1. */
    private int wrongLetter(int length) {
        String shape = "";
        int step = 0;
        for (int i = 0; i < length; i++) {
            int c = at(letters, i);
            if (step >= shape.length()) {
                shape = shapeBehind(c);
                step = 0;
                if (shape.isEmpty()) {
                    return i;
                }
            } else {
                if (!fits(c, shape.charAt(step))) {
                    return i;
                }
                step++;
            }
        }
        return length == 0 || step < shape.length() ? length : -1;
    }

    /** What must stand behind a statement's first letter; nothing, if none begins with it. */
    private static String shapeBehind(int c) {
        switch (c) {
            case 'c':
                return "c00;";
            case 'b':
                return "b0000;";
            case 'p':
                return "0000;";
            case 'x':
            case 'g':
            case 'm':
                return "00;";
            case 'r':
                return "0;";
            default:
                return "";
        }
    }

    private static boolean fits(int c, char wanted) {
        switch (wanted) {
            case 'c':
                return CARD_KINDS.indexOf((char) c) >= 0;
            case 'b':
                return BIDDER_KINDS.indexOf((char) c) >= 0;
            case '0':
                return c >= '0' && c <= '9';
            default:
                return c == wanted;
        }
    }

    /** The statement at a place comes to the hall in mind, if it is as it must be. */
    private boolean comes(int place) {
        int one = number(place + 1, 1);
        int other = number(place + 2, 1);
        int letter = at(letters, place + 1);
        switch (at(letters, place)) {
            case 'c':
                return mind.addCard(CARD_KINDS.indexOf((char) letter), other, number(place + 3, 1));
            case 'b':
                return mind.addBidder(BIDDER_KINDS.indexOf((char) letter), other, number(place + 3, 3));
            case 'p':
                return mind.fillPurse(one, number(place + 2, 3));
            case 'x':
                return mind.changePlaces(one, other);
            case 'r':
                return mind.layInPile(one);
            case 'g':
                return mind.handTo(one, other);
            case 'm':
                boolean timely = mind.hasTimeFor(number(place + 1, 2));
                if (timely) {
                    mind.goOn(number(place + 1, 2), true);
                }
                return timely;
            default:
                return false;
        }
    }

    private int number(int place, int digits) {
        int value = 0;
        for (int i = 0; i < digits; i++) {
            value = 10 * value + at(letters, place + i) - '0';
        }
        return value;
    }

    // ---- parts of answers

    private int riches(int i, int what) {
        switch (what) {
            case 0:
                return at(now.purse, i);
            case 1:
                return at(now.believed, i);
            default:
                return now.worth(i);
        }
    }

    private static int away(int bidder, int bids) {
        return bids == 1 ? 0 : 1 << bidder;
    }

    /** The hall in mind goes n months by one way to stutter (bits); how much that way weighs. */
    private long goStuttering(int card, int n, int t, int way) {
        mind.become(now);
        long weight = 1;
        for (int i = 0; i < n; i++) {
            boolean selling = (way >> i & 1) == 0;
            if (selling) {
                weight *= t - 1;
            }
            // No month changes who holds a card that is held, so the rest need not be gone.
            if (mind.inPile(card)) {
                mind.goOn(1, selling);
            }
        }
        return weight;
    }

    private boolean rowTellsHolders() {
        for (int i = 0; i < numberCount; i++) {
            int who = mind.inPile(i) ? NOBODY_IN_ROW : at(mind.holder, i);
            if (!mind.hasCard(i) || at(numbers, i) != who) {
                return false;
            }
        }
        return true;
    }

    private static long inLeastTerms(long above, long below, int part) {
        // 0 is told as 0 by 1, so that each part is its own number.
        if (above <= 0 || below <= 0) {
            return part;
        }
        long common = above;
        long rest = below;
        // The terms at least halve in two steps, so that 128 are enough for any longs.
        for (int i = 0; i < 128 && rest != 0; i++) {
            long next = common % rest;
            common = rest;
            rest = next;
        }
        if (common <= 0) {
            return part;
        }
        return part == 0 ? above / common : below / common;
    }

    // ---- rows of numbers

    private static int at(int[] row, int i) {
        return row != null && i >= 0 && i < row.length ? row[i] : 0;
    }

    private static void put(int[] row, int i, int v) {
        if (row != null && i >= 0 && i < row.length) {
            row[i] = v;
        }
    }

    private static void copyRow(int[] from, int[] to) {
        if (from != null && to != null) {
            System.arraycopy(from, 0, to, 0, Math.min(from.length, to.length));
        }
    }

    /** Cards, bidders, the order and the month: all that an image keeps. */
    private static final class Hall {
        private int cards;
        private int bidders;
        private int month;
        private final int[] cardKind;
        private final int[] cardFigure;
        private final int[] teller;
        private final int[] age;
        private final int[] holder;
        private final int[] order;
        private final int[] bidderKind;
        private final int[] bidderFigure;
        private final int[] purse;
        private final int[] believed;

        private Hall() {
            cardKind = new int[CARDS];
            cardFigure = new int[CARDS];
            teller = new int[CARDS];
            age = new int[CARDS];
            holder = new int[CARDS];
            order = new int[CARDS];
            bidderKind = new int[BIDDERS];
            bidderFigure = new int[BIDDERS];
            purse = new int[BIDDERS];
            believed = new int[BIDDERS];
        }

        private void become(Hall other) {
            if (other == null) {
                return;
            }
            cards = other.cards;
            bidders = other.bidders;
            month = other.month;
            copyRow(other.cardKind, cardKind);
            copyRow(other.cardFigure, cardFigure);
            copyRow(other.teller, teller);
            copyRow(other.age, age);
            copyRow(other.holder, holder);
            copyRow(other.order, order);
            copyRow(other.bidderKind, bidderKind);
            copyRow(other.bidderFigure, bidderFigure);
            copyRow(other.purse, purse);
            copyRow(other.believed, believed);
        }

        private boolean hasCard(int card) {
            return card >= 0 && card < cards;
        }

        private boolean hasBidder(int bidder) {
            return bidder >= 0 && bidder < bidders;
        }

        private boolean inPile(int card) {
            return hasCard(card) && at(holder, card) < 0;
        }

        private boolean addCard(int kind, int figure, int whoTold) {
            if (cards >= CARDS || whoTold >= BIDDERS) {
                return false;
            }
            put(cardKind, cards, kind);
            put(cardFigure, cards, figure);
            put(teller, cards, whoTold);
            put(age, cards, 0);
            put(holder, cards, NONE);
            put(order, cards, cards);
            cards++;
            return true;
        }

        private boolean addBidder(int kind, int figure, int money) {
            if (bidders >= BIDDERS) {
                return false;
            }
            put(bidderKind, bidders, kind);
            put(bidderFigure, bidders, figure);
            put(purse, bidders, money);
            put(believed, bidders, FIRST_BELIEVED);
            bidders++;
            return true;
        }

        private boolean fillPurse(int bidder, int money) {
            if (!hasBidder(bidder)) {
                return false;
            }
            put(purse, bidder, money);
            return true;
        }

        private boolean layInPile(int card) {
            if (!hasCard(card)) {
                return false;
            }
            put(holder, card, NONE);
            return true;
        }

        private boolean handTo(int card, int bidder) {
            if (!hasCard(card) || !hasBidder(bidder)) {
                return false;
            }
            put(holder, card, bidder);
            return true;
        }

        private int placeOf(int card) {
            for (int i = 0; i < cards; i++) {
                if (at(order, i) == card) {
                    return i;
                }
            }
            return NONE;
        }

        private boolean changePlaces(int one, int other) {
            if (!hasCard(one) || !hasCard(other) || one == other) {
                return false;
            }
            int place = placeOf(one);
            put(order, placeOf(other), one);
            put(order, place, other);
            return true;
        }

        /** The others stay one behind the other as they were. */
        private void toFront(int card) {
            for (int i = placeOf(card); i > 0; i--) {
                put(order, i, at(order, i - 1));
            }
            put(order, 0, card);
        }

        private int worth(int card) {
            int lie = at(cardFigure, card) + 3;
            int old = Math.max(0, lie - at(age, card) / 3);
            switch (at(cardKind, card)) {
                case KIND_ONE:
                    return lie / 2;
                case GREAT:
                    return 4 * lie;
                case OLD:
                    return old;
                case WHITE:
                    return 0;
                case TRUE:
                    return old / 2;
                default:
                    return lie;
            }
        }

        /** The most one bids for a card of a worth. */
        private int most(int bidder, int card, int worth) {
            int who = at(teller, card);
            boolean told = who == bidder;
            int plain = told ? worth + at(bidderFigure, bidder) : worth / 2;
            int most;
            switch (at(bidderKind, bidder)) {
                case SHY:
                    most = Math.max(0, plain - 3);
                    break;
                case ENEMY:
                    boolean envies = !told && hasBidder(who) && at(believed, who) > at(believed, bidder);
                    most = envies ? 2 * plain : plain;
                    break;
                case RICH:
                    most = plain + 5;
                    break;
                case HUSBAND:
                    most = told ? worth : 0;
                    break;
                case FOOL:
                    most = 2 * (plain + 5);
                    break;
                default:
                    most = plain;
                    break;
            }
            return Math.min(most, at(purse, bidder));
        }

        private int rivals(int card) {
            int worth = worth(card);
            int rivals = 0;
            for (int i = 0; i < bidders; i++) {
                if (most(i, card, worth) >= 1) {
                    rivals++;
                }
            }
            return rivals;
        }

        /** Who gets a card and for how much (DEAL times who, and the price), some away (bits); or NONE. */
        private int deal(int card, int away) {
            int worth = worth(card);
            int best = 0;
            int next = 0;
            int who = NONE;
            for (int i = 0; i < bidders; i++) {
                int most = (away >> i & 1) == 1 ? 0 : most(i, card, worth);
                if (most > best) {
                    next = best;
                    best = most;
                    who = i;
                } else if (most > next) {
                    next = most;
                }
            }
            return who < 0 ? NONE : who * DEAL + Math.min(best, next + 1);
        }

        /** A card is auctioned: what is paid. */
        private int auction(int card) {
            int deal = deal(card, 0);
            if (deal < 0) {
                return 0;
            }
            int buyer = deal / DEAL;
            int price = deal % DEAL;
            int who = at(teller, card);
            put(holder, card, buyer);
            put(purse, buyer, at(purse, buyer) - price);
            if (who == buyer) {
                put(believed, who, Math.min(TOP_BELIEVED, at(believed, who) + 2));
            } else if (hasBidder(who)) {
                put(believed, who, Math.max(0, at(believed, who) - worth(card) / 4 - 1));
            }
            return price;
        }

        private boolean hasTimeFor(int n) {
            return n >= 1 && n <= TOP_MONTHS && month + n <= TOP_MONTH;
        }

        /** Months go by, with or without auctions: what all pay in them together. */
        private int goOn(int n, boolean selling) {
            int paid = 0;
            for (int i = 0; i < n; i++) {
                month++;
                for (int place = 0; selling && place < cards; place++) {
                    int card = at(order, place);
                    if (inPile(card)) {
                        paid += auction(card);
                    }
                }
                closeMonth();
            }
            return paid;
        }

        private void closeMonth() {
            for (int i = 0; i < cards; i++) {
                if (inPile(i)) {
                    put(age, i, Math.min(TOP_AGE, at(age, i) + 1));
                }
            }
            for (int i = 0; i < bidders; i++) {
                put(purse, i, Math.min(TOP_PURSE, at(purse, i) + 5));
            }
        }

        /** What one has, in his own eyes, from a card's auction from which some stay away (bits). */
        private int gain(int bidder, int card, int away) {
            int deal = deal(card, away);
            if (deal < 0) {
                return 0;
            }
            if (deal / DEAL == bidder) {
                return worth(card) - deal % DEAL;
            }
            return at(teller, card) == bidder ? -3 : 0;
        }

        private void pourPurse(int from, int to) {
            put(purse, to, Math.min(TOP_PURSE, at(purse, to) + at(purse, from)));
            put(purse, from, 0);
        }

        /** All purses by a draw each: the seed behind them. */
        private int drawPurses(int seed) {
            int z = seed;
            for (int i = 0; i < bidders; i++) {
                z = z * 1664525 + 1013904223;
                put(purse, i, (z & 0x7fffffff) / 256 % 100);
            }
            return z;
        }

        private void allToPile() {
            for (int i = 0; i < cards; i++) {
                put(holder, i, NONE);
            }
        }

        private int allCardBits() {
            return (1 << cards) - 1;
        }

        private int pileBits() {
            int bits = 0;
            for (int i = 0; i < cards; i++) {
                if (inPile(i)) {
                    bits |= 1 << i;
                }
            }
            return bits;
        }

        private int heldBits(int bidder) {
            int bits = 0;
            for (int i = 0; i < cards; i++) {
                if (at(holder, i) == bidder) {
                    bits |= 1 << i;
                }
            }
            return bits;
        }

        private int ownBits() {
            int bits = 0;
            for (int i = 0; i < cards; i++) {
                if (at(holder, i) == at(teller, i)) {
                    bits |= 1 << i;
                }
            }
            return bits;
        }

        private int cleanBits() {
            int bits = (1 << bidders) - 1;
            for (int i = 0; i < cards; i++) {
                bits &= ~(1 << at(teller, i));
            }
            return bits;
        }

        private int heldBy(int bidder) {
            return Integer.bitCount(heldBits(bidder));
        }

        private int heldCount() {
            return cards - Integer.bitCount(pileBits());
        }

        private int allPurses() {
            int all = 0;
            for (int i = 0; i < bidders; i++) {
                all += at(purse, i);
            }
            return all;
        }

        private int allBelieved() {
            int all = 0;
            for (int i = 0; i < bidders; i++) {
                all += at(believed, i);
            }
            return all;
        }

        private int allWorth() {
            int all = 0;
            for (int i = 0; i < cards; i++) {
                all += worth(i);
            }
            return all;
        }
    }
}
