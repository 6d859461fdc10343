/**
 * Each sentence that tells refusals: the number, the order where several apply, on a new object, one with little and
 * one with all that it can hold; and that a refused call changes nothing but how many there were.
 */
final class RefusalEdges {
    private static final int MIN = Edges.MIN;
    private static final int MAX = Edges.MAX;
    private static final long FAR = Edges.FAR;

    /** No such CARD where there are none, 2 or 8; no such BIDDER where there are none, 2 or 6. */
    private static final int[] NO_CARD = {8, -1, 9, MIN, MAX};
    private static final int[] NO_BIDDER = {6, -1, 7, MIN, MAX};
    /** In the full state. */
    private static final int HELD = 1;
    private static final int PILED = 2;

    private static Edges edges;

    static void ask(Edges by) {
        edges = by;
        letter();
        cardAndBidder();
        bids();
        pays();
        returnsAndSells();
        gives();
        swaps();
        turn();
        months();
        thoughts();
        purseFor();
        plans();
        whats();
        two();
        stutterAndMean();
        whoTold();
        row();
        lots();
        on();
        kindsOfRefusals();
        refusalsOfLongs();
        manyRefusals();
    }

    private static void refusedEverywhere(long want, String call, int... with) {
        edges.refused(States::empty, want, call, with);
        edges.refused(States::few, want, call, with);
        edges.refused(States::full, want, call, with);
    }

    private static void refused(long want, String call, int... with) {
        edges.refused(States::full, want, call, with);
    }

    private static void letter() {
        edges.by(2, "-4; -6 (255; 96, too).");
        refusedEverywhere(-4, "letter", -1);
        refusedEverywhere(-4, "letter", MIN);
        refusedEverywhere(-6, "letter", 256);
        refusedEverywhere(-6, "letter", MAX);
        for (int c : new int[] {0, ';', 'r', 255, 256, MAX}) {
            edges.refused(() -> States.withLetters(96), -6, "letter", c);
        }
        // Below the least is told ahead of no room.
        edges.refused(() -> States.withLetters(96), -4, "letter", -1);
        edges.refused(() -> States.withLetters(96), -4, "letter", MIN);
        edges.due(96, States.withLetters(95).letter(255));
    }

    private static void cardAndBidder() {
        edges.by(4, "-1; -2.");
        for (int card : NO_CARD) {
            refusedEverywhere(-1, "card", card, 0);
            refused(-1, "card", card, 8);
            refused(-1, "card", card, -1);
        }
        edges.refused(States::empty, -1, "card", 0, 0);
        edges.refused(States::few, -1, "card", 2, 0);
        for (int what : new int[] {-1, 8, MIN, MAX}) {
            refused(-2, "card", 0, what);
            refused(-2, "card", 7, what);
        }
        edges.by(5, "-1; -2.");
        for (int bidder : NO_BIDDER) {
            refusedEverywhere(-1, "bidder", bidder, 0);
            refused(-1, "bidder", bidder, 5);
            refused(-1, "bidder", bidder, -1);
        }
        edges.refused(States::empty, -1, "bidder", 0, 0);
        edges.refused(States::few, -1, "bidder", 2, 0);
        for (int what : new int[] {-1, 5, MIN, MAX}) {
            refused(-2, "bidder", 0, what);
            refused(-2, "bidder", 5, what);
        }
    }

    private static void bids() {
        edges.by(6, "-1 either.");
        for (int bidder : NO_BIDDER) {
            refusedEverywhere(-1, "bids", bidder, 0);
        }
        for (int card : NO_CARD) {
            refusedEverywhere(-1, "bids", 0, card);
        }
        refusedEverywhere(-1, "bids", 6, 8);
        edges.refused(States::few, -1, "bids", 2, 1);
        edges.refused(States::few, -1, "bids", 1, 2);
    }

    private static void pays() {
        edges.by(7, "-1; -4; -6 999.");
        for (int bidder : NO_BIDDER) {
            refusedEverywhere(-1, "pays", bidder, 0);
            refused(-1, "pays", bidder, -1);
            refused(-1, "pays", bidder, 1000);
        }
        edges.refused(States::few, -1, "pays", 2, 0);
        for (int bidder : new int[] {0, 5}) {
            refused(-4, "pays", bidder, -1);
            refused(-4, "pays", bidder, MIN);
            refused(-6, "pays", bidder, 1000);
            refused(-6, "pays", bidder, MAX);
        }
    }

    private static void returnsAndSells() {
        edges.by(8, "-1; -3 it is.");
        for (int card : NO_CARD) {
            refusedEverywhere(-1, "returns", card);
        }
        edges.refused(States::few, -1, "returns", 2);
        edges.refused(States::few, -3, "returns", 0);
        refused(-3, "returns", PILED);
        refused(-3, "returns", 7);
        edges.by(11, "-1; -3 it is HELD.");
        for (int card : NO_CARD) {
            refusedEverywhere(-1, "sells", card);
        }
        edges.refused(States::few, -1, "sells", 2);
        refused(-3, "sells", 0);
        refused(-3, "sells", HELD);
    }

    private static void gives() {
        edges.by(9, "-1 either.");
        for (int card : NO_CARD) {
            refusedEverywhere(-1, "gives", card, 0);
        }
        for (int bidder : NO_BIDDER) {
            refusedEverywhere(-1, "gives", 0, bidder);
        }
        refusedEverywhere(-1, "gives", 8, 6);
        edges.refused(States::few, -1, "gives", 1, 2);
        edges.refused(States::few, -1, "gives", 2, 1);
    }

    private static void swaps() {
        edges.by(10, "-1 either (one twice, too).");
        for (int card : NO_CARD) {
            refusedEverywhere(-1, "swaps", card, 0);
            refusedEverywhere(-1, "swaps", 0, card);
            refusedEverywhere(-1, "swaps", card, card);
        }
        refusedEverywhere(-1, "swaps", 0, 0);
        refused(-1, "swaps", 7, 7);
        edges.refused(States::few, -1, "swaps", 1, 2);
        edges.refused(States::few, -1, "swaps", 2, 1);
    }

    private static void turn() {
        edges.by(12, "-1; -2; -4; -6 9.");
        for (int bidder : NO_BIDDER) {
            refusedEverywhere(-1, "turn", bidder, 0, 0);
            refused(-1, "turn", bidder, 6, 0);
            refused(-1, "turn", bidder, 0, -1);
            refused(-1, "turn", bidder, 0, 10);
        }
        edges.refused(States::few, -1, "turn", 2, 0, 0);
        for (int kind : new int[] {-1, 6, MIN, MAX}) {
            refused(-2, "turn", 5, kind, 0);
            refused(-2, "turn", 5, kind, -1);
            refused(-2, "turn", 5, kind, 10);
        }
        for (int kind : new int[] {0, 5}) {
            refused(-4, "turn", 0, kind, -1);
            refused(-4, "turn", 0, kind, MIN);
            refused(-6, "turn", 0, kind, 10);
            refused(-6, "turn", 0, kind, MAX);
        }
    }

    private static void months() {
        edges.by(13, "-4; -6 (60; MONTH above 999).");
        for (int n : new int[] {0, -1, MIN}) {
            refusedEverywhere(-4, "months", n);
            edges.refused(() -> States.late(999), -4, "months", n);
        }
        for (int n : new int[] {61, MAX, MAX - 999}) {
            refusedEverywhere(-6, "months", n);
        }
        for (int n : new int[] {1, 60, 61, MAX}) {
            edges.refused(() -> States.late(999), -6, "months", n);
        }
        edges.refused(() -> States.late(998), -6, "months", 2);
        edges.refused(() -> States.late(940), -6, "months", 60);
    }

    private static void thoughts() {
        edges.by(14, "-1; -4; -6 60.");
        noSuchCardThenBounds("cardThen", 60);
        edges.by(15, "-1; -4; -6 60; -2.");
        for (int bidder : NO_BIDDER) {
            refusedEverywhere(-1, "bidderThen", bidder, 0, 0);
            refused(-1, "bidderThen", bidder, -1, 2);
            refused(-1, "bidderThen", bidder, 61, 2);
            refused(-1, "bidderThen", bidder, 0, 2);
        }
        edges.refused(States::few, -1, "bidderThen", 2, 0, 0);
        for (int what : new int[] {0, 1, 2, -1, MIN, MAX}) {
            refused(-4, "bidderThen", 5, -1, what);
            refused(-4, "bidderThen", 5, MIN, what);
            refused(-6, "bidderThen", 5, 61, what);
            refused(-6, "bidderThen", 5, MAX, what);
        }
        for (int what : new int[] {2, -1, MIN, MAX}) {
            refused(-2, "bidderThen", 0, 0, what);
            refused(-2, "bidderThen", 5, 60, what);
        }
        edges.by(16, "-4; -6 60.");
        bounds("pileThen", 60);
        edges.by(17, "-1.");
        for (int card : NO_CARD) {
            refusedEverywhere(-1, "sold", card);
        }
        edges.refused(States::few, -1, "sold", 2);
        edges.by(20, "-1.");
        for (int bidder : NO_BIDDER) {
            refusedEverywhere(-1, "ruined", bidder);
        }
        edges.refused(States::few, -1, "ruined", 2);
        edges.by(18, "-1; -2.");
        for (int card : NO_CARD) {
            refusedEverywhere(-1, "gets", card, 0);
            refused(-1, "gets", card, 2);
        }
        edges.refused(States::few, -1, "gets", 2, 1);
        for (int what : new int[] {-1, 2, MIN, MAX}) {
            refused(-2, "gets", 0, what);
            refused(-2, "gets", 7, what);
        }
    }

    private static void bounds(String call, int most) {
        for (int n : new int[] {-1, MIN}) {
            refusedEverywhere(-4, call, n);
        }
        for (int n : new int[] {most + 1, MAX}) {
            refusedEverywhere(-6, call, n);
        }
    }

    private static void noSuchCardThenBounds(String call, int most) {
        for (int card : NO_CARD) {
            refusedEverywhere(-1, call, card, 0);
            refused(-1, call, card, -1);
            refused(-1, call, card, most + 1);
        }
        edges.refused(States::few, -1, call, 2, 0);
        boundsBehindOne(call, 7, most);
    }

    private static void noSuchBidderThenBounds(String call, int most) {
        for (int bidder : NO_BIDDER) {
            refusedEverywhere(-1, call, bidder, 0);
            refused(-1, call, bidder, -1);
            refused(-1, call, bidder, most + 1);
        }
        edges.refused(States::few, -1, call, 2, 0);
        boundsBehindOne(call, 5, most);
    }

    private static void boundsBehindOne(String call, int last, int most) {
        for (int one : new int[] {0, last}) {
            refused(-4, call, one, -1);
            refused(-4, call, one, MIN);
            refused(-6, call, one, most + 1);
            refused(-6, call, one, MAX);
        }
    }

    private static void purseFor() {
        edges.by(21, "-1 either; -3 it is HELD.");
        for (int bidder : NO_BIDDER) {
            refusedEverywhere(-1, "purseFor", bidder, 0);
            refused(-1, "purseFor", bidder, HELD);
        }
        for (int card : NO_CARD) {
            refusedEverywhere(-1, "purseFor", 0, card);
        }
        edges.refused(States::few, -1, "purseFor", 2, 0);
        edges.refused(States::few, -1, "purseFor", 0, 2);
        refused(-3, "purseFor", 0, HELD);
        refused(-3, "purseFor", 1, HELD);
        refused(-3, "purseFor", 5, 0);
    }

    private static void plans() {
        edges.by(22, "-1; -4; -6 20.");
        noSuchBidderThenBounds("first", 20);
        edges.by(23, "-4; -6 20.");
        bounds("give", 20);
        edges.by(24, "-1; -4; -6 20.");
        noSuchBidderThenBounds("pool", 20);
    }

    private static void whats() {
        String[] calls = {"stay", "richest", "owned"};
        int[] sizes = {2, 3, 4};
        for (int i = 0; i < calls.length; i++) {
            edges.by(25 + i, "-2.");
            for (int what : new int[] {-1, sizes[i], MIN, MAX}) {
                refusedEverywhere(-2, calls[i], what);
            }
        }
    }

    private static void two() {
        edges.by(28, "-1 any (one twice, too); -3 it is HELD.");
        for (int bidder : NO_BIDDER) {
            refusedEverywhere(-1, "two", bidder, 0, 0);
            refused(-1, "two", 0, bidder, PILED);
            refused(-1, "two", bidder, 0, PILED);
            refused(-1, "two", bidder, bidder, PILED);
            refused(-1, "two", 0, bidder, HELD);
        }
        for (int card : NO_CARD) {
            refusedEverywhere(-1, "two", 0, 1, card);
        }
        edges.refused(States::few, -1, "two", 2, 0, 0);
        edges.refused(States::few, -1, "two", 0, 2, 0);
        edges.refused(States::few, -1, "two", 0, 1, 2);
        refused(-1, "two", 0, 0, PILED);
        refused(-1, "two", 5, 5, PILED);
        refused(-1, "two", 0, 0, HELD);
        refused(-3, "two", 0, 1, HELD);
        refused(-3, "two", 5, 4, 0);
    }

    private static void stutterAndMean() {
        edges.by(29, "Refused as told: -1 either; -4 (n; t below 2); -6 (7; 20); -2.");
        for (int bidder : NO_BIDDER) {
            refusedEverywhere(FAR + 1, "stutter", bidder, 0, 0, 2, 0);
            refused(FAR + 1, "stutter", bidder, 0, -1, 1, 2);
        }
        for (int card : NO_CARD) {
            refusedEverywhere(FAR + 1, "stutter", 0, card, 0, 2, 0);
            refused(FAR + 1, "stutter", 0, card, 8, 21, 2);
        }
        edges.refused(States::few, FAR + 1, "stutter", 2, 1, 0, 2, 0);
        edges.refused(States::few, FAR + 1, "stutter", 1, 2, 0, 2, 0);
        for (int n : new int[] {-1, MIN}) {
            refused(FAR + 4, "stutter", 0, 0, n, 2, 0);
            refused(FAR + 4, "stutter", 5, 7, n, 21, 2);
        }
        for (int t : new int[] {1, 0, -1, MIN}) {
            refused(FAR + 4, "stutter", 0, 0, 7, t, 0);
            refused(FAR + 4, "stutter", 5, 7, 8, t, 2);
        }
        for (int n : new int[] {8, MAX}) {
            refused(FAR + 6, "stutter", 0, 0, n, 2, 0);
            refused(FAR + 6, "stutter", 5, 7, n, 20, 2);
        }
        for (int t : new int[] {21, MAX}) {
            refused(FAR + 6, "stutter", 0, 0, 0, t, 1);
            refused(FAR + 6, "stutter", 5, 7, 7, t, -1);
        }
        for (int part : new int[] {-1, 2, MIN, MAX}) {
            refused(FAR + 2, "stutter", 0, 0, 0, 2, part);
            refused(FAR + 2, "stutter", 5, 7, 7, 20, part);
        }
        edges.by(30, "Refused as told: -2.");
        for (int part : new int[] {-1, 2, MIN, MAX}) {
            refusedEverywhere(FAR + 2, "mean", part);
        }
    }

    private static void whoTold() {
        edges.by(31, "-1; -2.");
        for (int card : NO_CARD) {
            refusedEverywhere(-1, "whoTold", card, 0);
            refused(-1, "whoTold", card, 2);
            refused(-1, "whoTold", card, -1);
        }
        edges.refused(States::few, -1, "whoTold", 2, 0);
        for (int what : new int[] {-1, 2, MIN, MAX}) {
            refused(-2, "whoTold", 0, what);
            refused(-2, "whoTold", 7, what);
        }
    }

    private static void row() {
        edges.by(32, "-4; -6 (99; 16, too).");
        refusedEverywhere(-4, "row", -1);
        refusedEverywhere(-4, "row", MIN);
        refusedEverywhere(-6, "row", 100);
        refusedEverywhere(-6, "row", MAX);
        for (int v : new int[] {0, 5, 99, 100, MAX}) {
            edges.refused(() -> States.withRow(16), -6, "row", v);
        }
        // Below the least is told ahead of no room.
        edges.refused(() -> States.withRow(16), -4, "row", -1);
        edges.refused(() -> States.withRow(16), -4, "row", MIN);
        edges.due(16, States.withRow(15).row(99));
    }

    private static void lots() {
        edges.by(35, "-4; -6 20; -2.");
        for (int n : new int[] {0, -1, MIN}) {
            refusedEverywhere(-4, "lots", n, 0, 0);
            refused(-4, "lots", n, MAX, 2);
        }
        for (int n : new int[] {21, MAX}) {
            refusedEverywhere(-6, "lots", n, 0, 0);
            refused(-6, "lots", n, MIN, -1);
        }
        for (int what : new int[] {-1, 2, MIN, MAX}) {
            refusedEverywhere(-2, "lots", 1, MIN, what);
            refused(-2, "lots", 20, MAX, what);
        }
    }

    private static void on() {
        edges.by(37, "-3 there is none.");
        edges.refused(States::empty, -3, "on");
        edges.refused(States::few, -3, "on");
        edges.refused(() -> States.late(999), -3, "on");
        edges.due(7, States.full().on());
        LiesBoughtBack x = States.empty();
        edges.due(0, x.image());
        edges.due(0, x.on());
        edges.due(0, x.count(13));
    }

    /** Each number is counted for itself, as often as a call was refused by it. */
    private static void kindsOfRefusals() {
        LiesBoughtBack x = Edges.told("cl00;bb0000;");
        edges.by(38, "-1 NOBODY: no such CARD, BIDDER, one twice.");
        counted(x, 11, x.card(1, 0), x.bidder(1, 0), x.swaps(0, 0), x.two(0, 0, 0));
        edges.by(38, "-2 OTHER: what, KIND.");
        counted(x, 12, x.card(0, 8), x.stay(2), x.turn(0, 6, 0));
        edges.by(38, "-3 STATE: it is not as it must be.");
        counted(x, 13, x.returns(0), x.on());
        edges.by(38, "-4 BELOW: a number below the least.");
        counted(x, 14, x.letter(-1), x.months(0), x.give(-1), x.row(-1), x.lots(0, 0, 0));
        edges.by(38, "-6 ROOM: a number above the greatest, no room.");
        counted(x, 16, x.letter(256), x.months(61), x.pileThen(61), x.row(100), x.lots(21, 0, 0));
        edges.due(0, x.count(15));
    }

    private static void counted(LiesBoughtBack x, int what, long... refusals) {
        for (long refusal : refusals) {
            edges.due(10 - what, refusal);
        }
        edges.due(refusals.length, x.count(what));
    }

    private static void refusalsOfLongs() {
        edges.by(29, "Of longs they are 4000000000000000000 less them (-1 as 4000000000000000001).");
        LiesBoughtBack x = Edges.told("cl00;bb0000;");
        edges.due(4000000000000000001L, x.stutter(1, 0, 0, 2, 0));
        edges.due(4000000000000000004L, x.stutter(0, 0, 0, 1, 0));
        edges.due(4000000000000000006L, x.stutter(0, 0, 0, 21, 0));
        edges.due(4000000000000000002L, x.stutter(0, 0, 0, 20, 2));
        edges.due(4000000000000000002L, x.mean(-1));
        int[] counts = {1, 2, 0, 1, 0, 1};
        for (int i = 0; i < counts.length; i++) {
            edges.due(counts[i], x.count(11 + i));
        }
    }

    private static void manyRefusals() {
        edges.by(38, "nothing changes but how many there were");
        refusedEverywhere(-1, "card", -1, -1);
        LiesBoughtBack x = States.empty();
        for (int i = 0; i < 511; i++) {
            x.on();
        }
        edges.due(511, x.count(13));
    }
}
