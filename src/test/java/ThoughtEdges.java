/** What is answered in mind, at its least and greatest, and that nothing changes by it. */
final class ThoughtEdges {
    private static Edges edges;

    static void ask(Edges by) {
        edges = by;
        beyondTheLastMonth();
        inMind();
        asksOnly();
        sold();
        gets();
        out();
        ruined();
        purseFor();
        first();
        give();
        pool();
        stay();
        richest();
        owned();
        rivals();
        two();
        twoWants();
        stutter();
        mean();
        whoTold();
        judged();
        lots();
        draws();
        image();
        fractions();
    }

    private static void beyondTheLastMonth() {
        edges.by(14, "(In thought MONTH may pass 999.)");
        String cards = "cl50;cg91;co72;cw03;ct94;x03;";
        String bidders = "bb5003;bf2007;bh1004;be9030;";
        LiesBoughtBack early = Edges.told(cards, bidders);
        LiesBoughtBack late = Edges.told("m60;".repeat(16) + "m39;", cards, bidders);
        edges.due(999, late.count(2));
        Object[][] calls = {{"cardThen", 3, 60}, {"cardThen", 0, 1}, {"bidderThen", 0, 60, 0}, {"bidderThen", 1, 2, 1},
            {"pileThen", 1}, {"pileThen", 60}, {"sold", 0}, {"out"}, {"ruined", 0}, {"purseFor", 2, 1}, {"first", 0, 20},
            {"give", 20}, {"pool", 0, 1}, {"stay", 1}, {"stutter", 1, 0, 7, 20, 0}, {"stutter", 1, 0, 7, 20, 1},
            {"whoTold", 0, 0}, {"lots", 20, 7, 0}, {"lots", 20, 7, 1}};
        for (Object[] call : calls) {
            int[] with = new int[call.length - 1];
            for (int i = 0; i < with.length; i++) {
                with[i] = (Integer) call[1 + i];
            }
            edges.due(Edges.call(early, (String) call[0], with), Edges.call(late, (String) call[0], with));
        }
        LiesBoughtBack x = Edges.told("m60;".repeat(16) + "m39;", "cw00;bh0000;");
        edges.due(-9, x.cardThen(0, 1));
        edges.due(5, x.bidderThen(0, 1, 0));
        edges.due(300, x.bidderThen(0, 60, 0));
        edges.due(999, x.count(2));
        edges.due(999, late.count(2));
        edges.by(6, "WORTH of a CARD; the most a BIDDER would bid for one now.");
        edges.due(8, late.card(0, 5));
        edges.due(3, late.bids(0, 0));
    }

    private static void inMind() {
        edges.by(15, "In mind, n MONTHS on (0 .. 60): who HOLDS a CARD (-9); PURSE, BELIEVED of one; CARDS IN THE "
                + "PILE (bits).");
        LiesBoughtBack x = Edges.told("cl50;cw51;bh0000;bb0004;");
        int[] months = {0, 1, 2, 60};
        int[] holders = {-9, 1, 1, 1};
        int[] purses = {4, 8, 13, 303};
        int[] believed = {50, 47, 47, 47};
        int[] piles = {3, 2, 2, 2};
        for (int i = 0; i < months.length; i++) {
            edges.due(holders[i], x.cardThen(0, months[i]));
            edges.due(-9, x.cardThen(1, months[i]));
            edges.due(purses[i], x.bidderThen(1, months[i], 0));
            edges.due(believed[i], x.bidderThen(0, months[i], 1));
            edges.due(piles[i], x.pileThen(months[i]));
        }
        x.gives(0, 1);
        x.pays(0, 699);
        edges.due(994, x.bidderThen(0, 59, 0));
        edges.due(999, x.bidderThen(0, 60, 0));
        x.pays(0, 700);
        edges.due(999, x.bidderThen(0, 60, 0));
        x.pays(0, 999);
        edges.due(999, x.bidderThen(0, 0, 0));
        edges.due(999, x.bidderThen(0, 1, 0));
        edges.due(0, States.empty().pileThen(0));
        edges.due(0, States.empty().pileThen(60));
        edges.due(255, Edges.told("cw00;".repeat(8)).pileThen(60));
        edges.due(0, Edges.told("cl00;".repeat(8), "bf0008;").pileThen(1));
    }

    private static void asksOnly() {
        edges.by(14, "In mind, n MONTHS on (0 .. 60)");
        for (int n : new int[] {0, 1, 60}) {
            asksOnly("cardThen", 7, n);
            asksOnly("bidderThen", 5, n, 0);
            asksOnly("bidderThen", 0, n, 1);
            asksOnly("pileThen", n);
        }
        for (int n : new int[] {0, 1, 20}) {
            asksOnly("first", 5, n);
            asksOnly("give", n);
            asksOnly("pool", 5, n);
            asksOnly("lots", Math.max(1, n), Edges.MIN, 0);
            asksOnly("lots", Math.max(1, n), Edges.MAX, 1);
        }
        for (int what : new int[] {0, 1}) {
            asksOnly("gets", 2, what);
            asksOnly("gets", 0, what);
            asksOnly("stay", what);
            asksOnly("stutter", 5, 7, 0, 2, what);
            asksOnly("stutter", 0, 2, 7, 20, what);
            asksOnly("whoTold", 7, what);
            asksOnly("mean", what);
        }
        asksOnly("sold", 7);
        asksOnly("out");
        asksOnly("ruined", 5);
        asksOnly("purseFor", 5, 7);
        asksOnly("two", 0, 5, 7);
        asksOnly("bids", 5, 7);
        for (int what = -1; what <= 18; what++) {
            asksOnly("count", what);
        }
        for (int what = 0; what <= 7; what++) {
            asksOnly("card", 7, what);
            asksOnly(what <= 2 ? "richest" : "owned", what <= 3 ? what : what - 4);
            asksOnly("bidder", 5, Math.min(4, what));
        }
    }

    private static void asksOnly(String call, int... with) {
        edges.changesNothing(States::full, call, with);
    }

    /** Eight cards, two fools with nothing: 6 are sold in the second month, the last two in the third. */
    private static LiesBoughtBack slow() {
        return Edges.told("cl05;".repeat(8), "bf0000;bf0000;");
    }

    private static void sold() {
        edges.by(17, "SOLD: behind how many MONTHS (0 .. 60) a CARD is HELD first; -9.");
        edges.due(0, Edges.told("cl50;bb0000;g00;").sold(0));
        edges.due(1, Edges.told("cl50;bb5001;").sold(0));
        edges.due(2, Edges.told("cl50;bb5000;").sold(0));
        edges.dueAll(slow(), "cardThen", 1, -9, -9, -9, -9, -9, -9, -9, -9);
        edges.dueAll(slow(), "cardThen", 2, 0, 1, 1, 1, 1, 1, -9, -9);
        edges.dueAll(slow(), "cardThen", 3, 0, 1, 1, 1, 1, 1, 0, 1);
        int[] months = {2, 2, 2, 2, 2, 2, 3, 3};
        for (int card = 0; card < 8; card++) {
            edges.due(months[card], slow().sold(card));
        }
        edges.due(-9, Edges.told("cl50;").sold(0));
        edges.due(-9, Edges.told("cw05;bb9999;").sold(0));
        edges.due(0, Edges.told("cw05;bb9999;g00;").sold(0));
    }

    private static void gets() {
        edges.by(18, "GETS: who would HOLD a CARD, were it AUCTIONED now; -9; for how much.");
        LiesBoughtBack x = Edges.told("cg95;cw00;cl05;", "bh0000;bh0000;bh0000;bh0000;bh0000;bf9124;");
        edges.due(5, x.gets(0, 0));
        edges.due(1, x.gets(0, 1));
        edges.due(5, x.gets(1, 0));
        x.pays(5, 0);
        edges.due(-9, x.gets(0, 0));
        edges.due(-9, x.gets(0, 1));
        x = Edges.told("cg95;", "bf0058;bf0058;bf0999;bf0058;bf0057;bf9124;");
        edges.due(5, x.gets(0, 0));
        edges.due(59, x.gets(0, 1));
        x.pays(5, 58);
        edges.due(0, x.gets(0, 0));
        edges.due(58, x.gets(0, 1));
        // A held one as if it were auctioned: its holder bids as all do, and for nothing that nobody bids.
        x.gives(0, 4);
        edges.due(0, x.gets(0, 0));
        edges.due(4, x.card(0, 4));
        x = Edges.told("cw00;", "bh9999;g00;");
        edges.due(-9, x.gets(0, 0));
        edges.due(-9, x.gets(0, 1));
    }

    private static void out() {
        edges.by(19, "OUT: behind how many MONTHS THE PILE is empty first; -9.");
        edges.due(0, States.empty().out());
        edges.due(0, Edges.told("bb0000;").out());
        edges.due(0, Edges.told("cw00;cw00;bb0000;g00;g10;").out());
        edges.due(-9, Edges.told("cw05;cl00;bb0005;g10;").out());
        edges.due(1, Edges.told("cw05;cl00;bb0005;g00;").out());
        edges.due(2, Edges.told("cl00;bb0000;").out());
        edges.due(3, slow().out());
        edges.due(-9, Edges.told("cl00;").out());
    }

    private static void ruined() {
        edges.by(20, "RUINED: behind how many MONTHS BELIEVED of one is 0 first; -9.");
        // 50 less 13 three times, less 11 or 10.
        LiesBoughtBack x = Edges.told("cg91;cg91;cg91;cg71;", "bf0999;bs0000;");
        edges.due(1, x.ruined(1));
        edges.due(-9, x.ruined(0));
        edges.due(-9, Edges.told("cg91;cg91;cg91;cg61;", "bf0999;bs0000;").ruined(1));
        x.months(1);
        edges.due(0, x.bidder(1, 3));
        edges.due(0, x.ruined(1));
        edges.due(2, Edges.told("cg91;cg91;cg91;cg91;", "bf0003;bs0000;").ruined(1));
        edges.due(-9, Edges.told("bb0000;").ruined(0));
        // From what is now: one less in the pile.
        x = Edges.told("cg91;cg91;cg91;cg71;", "bf0999;bs0000;");
        edges.due(1, x.ruined(1));
        x.gives(0, 1);
        edges.due(-9, x.ruined(1));
    }

    private static void purseFor() {
        edges.by(21, "PURSE FOR: the least PURSE (0 .. 99) one must have now so that he HOLDS a CARD IN THE PILE "
                + "behind the next MONTH; -9.");
        LiesBoughtBack x = Edges.told("cl50;cw00;", "bb0000;bh0000;");
        edges.due(1, x.purseFor(0, 0));
        edges.due(-9, x.purseFor(1, 0));
        edges.due(-9, x.purseFor(0, 1));
        // Three husbands bid for theirs: the fool pays 33, 33 and, as the least of two, what the third bids.
        String hall = "bf0000;bh0032;bh0032;bh0033;";
        x = Edges.told("cg91;cg92;cg93;", hall);
        edges.due(32, x.purseFor(0, 0));
        edges.due(99, x.purseFor(0, 2));
        x.pays(0, 999);
        edges.due(99, x.purseFor(0, 2));
        x.pays(3, 32);
        edges.due(98, x.purseFor(0, 2));
        x.pays(3, 34);
        edges.due(-9, x.purseFor(0, 2));
        edges.due(999, x.bidder(0, 2));
        // One who comes behind the other must have 1 more than he bids.
        x = Edges.told("cg90;", "bh0032;bf0000;");
        edges.due(33, x.purseFor(1, 0));
        edges.due(1, x.purseFor(0, 0));
    }

    /** The first card costs the fool all he has, and the husband, who told it, bids 9 against him. */
    private static LiesBoughtBack dearFirst() {
        return Edges.told("cg91;cl05;cl05;", "bf0010;bh0009;");
    }

    private static void first() {
        edges.by(22, "FIRST: the CARD IN THE PILE which, first in THE ORDER now, makes a told BIDDER HOLD most "
                + "CARDS behind n MONTHS (0 .. 20), more than else, of several the least; -9.");
        LiesBoughtBack x = dearFirst();
        edges.due(-9, x.first(0, 0));
        edges.due(1, x.first(0, 1));
        // By the second month he has them all in any order.
        edges.due(-9, x.first(0, 2));
        edges.due(-9, x.first(0, 20));
        edges.due(-9, x.first(1, 1));
        x.swaps(1, 2);
        edges.due(1, x.first(0, 1));
        x.gives(1, 1);
        edges.due(2, x.first(0, 1));
        x.gives(2, 1);
        edges.due(-9, x.first(0, 1));
        // The dear one first by the order: then 0 is the least of those that come behind it.
        x = Edges.told("cl05;cg91;cl05;x01;", "bf0010;bh0009;");
        edges.due(0, x.first(0, 1));
        x.gives(0, 1);
        edges.due(2, x.first(0, 1));
        // 2 first takes 1 from the fool, so that the husband has enough for 0 and for 1, who stand behind it then.
        edges.due(2, Edges.told("cl40;cg80;cl45;", "bh0006;bf0003;").first(0, 1));
        // First in the order already, so that nothing is more than else.
        x = dearFirst();
        x.swaps(0, 1);
        edges.due(-9, x.first(0, 1));
        // 1 first leaves him 9 for card 0, as much as the husband bids; so does 3 first: of several the least.
        x = Edges.told("cg91;cl05;cl05;cl05;", "bf0010;bh0009;");
        edges.due(1, x.first(0, 1));
        edges.due(-9, Edges.told("bb0000;").first(0, 20));
    }

    private static void give() {
        edges.by(23, "GIVE: the CARD IN THE PILE which, given to him who TOLD it now (there; nothing else "
                + "changes), makes all BELIEVED together most behind n MONTHS (0 .. 20), more than else, of "
                + "several the least; -9.");
        // Sold to the fool, 0's lies cost him 3 and 3, a greater one 4.
        LiesBoughtBack x = Edges.told("cl50;cl50;cl52;", "bs0000;bf0999;");
        edges.due(-9, x.give(0));
        edges.due(0, x.give(1));
        edges.due(0, x.give(20));
        Edges.tell(x, "cl90;");
        edges.due(3, x.give(1));
        // Held, it is not given.
        x.gives(3, 1);
        edges.due(0, x.give(1));
        x.gives(0, 0);
        edges.due(1, x.give(1));
        x.gives(1, 0);
        // The teller of what is left is not there; then he is.
        edges.due(-9, x.give(1));
        Edges.tell(x, "bs0000;");
        edges.due(2, x.give(1));
        // Card 0 takes the purse that would buy back card 1; but its teller is not there, so that it is not given.
        edges.due(1, Edges.told("cl05;cl50;", "bb0001;bf0001;").give(1));
        // By his own bid he is believed 2 more; the gift alone makes nobody believed more.
        edges.due(-9, Edges.told("cl50;", "bb0999;").give(20));
        edges.due(-9, Edges.told("cl50;", "bs0000;bb0000;").give(1));
        edges.due(-9, States.empty().give(20));
    }

    private static void pool() {
        edges.by(24, "POOL: with whom one had better put both PURSES together (in his own now, the other's 0) so "
                + "that he HOLDS most behind n MONTHS (0 .. 20), more than else, of several the least; -9.");
        LiesBoughtBack x = Edges.told("cl90;", "bb9002;bb0005;bb0005;bb0001;");
        edges.due(-9, x.pool(0, 0));
        edges.due(1, x.pool(0, 1));
        edges.due(1, x.pool(0, 20));
        edges.due(-9, x.pool(1, 1));
        edges.due(0, x.pool(2, 1));
        // With 1 or 2 more he has too little against 5, with 3 more as much as the other bids, and is the least.
        x.pays(1, 1);
        edges.due(2, x.pool(0, 1));
        x.pays(1, 3);
        edges.due(1, x.pool(0, 1));
        x.pays(1, 2);
        edges.due(2, x.pool(0, 1));
        // The other bids nothing then: without that 4 were too little against 6.
        edges.due(1, Edges.told("cl51;", "bb0000;bb0006;").pool(0, 1));
        edges.due(-9, Edges.told("cl51;", "bb0000;bb0006;").pool(1, 1));
        edges.due(-9, Edges.told("cl50;", "bb0000;").pool(0, 1));
        // His purse is 0 then, not 1, by which he would be the least of two.
        edges.due(0, Edges.told("cl05;", "bf0001;bf0000;").pool(1, 1));
        // Two full purses together.
        edges.due(-9, Edges.told("cg90;", "bf9999;bf9999;").pool(0, 20));
        edges.due(0, Edges.told("cg90;", "bf9999;bf9999;").pool(1, 20));
    }

    private static void stay() {
        edges.by(25, "STAY: the BIDDER with whose PURSE 0 now what all others pay in the next MONTH together is "
                + "least, of several the least; -9; that.");
        stays(-9, -9, States.empty());
        stays(-9, -9, Edges.told("cl00;"));
        stays(0, 0, Edges.told("bb0999;"));
        stays(0, 0, Edges.told("cl00;bb0999;"));
        stays(0, 0, Edges.told("cl00;bf0999;bf0999;g01;"));
        // Without 0 .. 4 the last pays 1; without him nobody pays.
        stays(5, 0, Edges.told("cl00;", "bs0000;bs0000;bs0000;bs0000;bs0000;bf0009;"));
        stays(0, 1, Edges.told("cl00;", "bf0009;bf0009;"));
        // Two cards for 1 each without 0 or 1; with a third of 2, for 3 each; without the third for 9 and 1.
        stays(0, 2, Edges.told("cl05;cl05;", "bf0009;bf0009;"));
        stays(0, 6, Edges.told("cl05;cl05;", "bf0009;bf0009;bf0002;"));
        stays(1, 3, Edges.told("cg95;", "bf0002;bf0012;bf0003;"));
    }

    private static void stays(int who, int paid, LiesBoughtBack x) {
        edges.due(who, x.stay(0));
        edges.due(paid, x.stay(1));
    }

    private static void richest() {
        edges.by(26, "RICHEST: the BIDDER of most PURSE, of several the least; -9; TRUSTED likewise of most "
                + "BELIEVED.");
        edges.due(-9, Edges.told("cl00;").richest(0));
        edges.due(-9, Edges.told("cl00;").richest(1));
        edges.due(0, Edges.told("bb0000;bb0000;").richest(0));
        edges.due(5, Edges.told("bb0998;bb0000;bb0998;bb0998;bb0998;bb0999;").richest(0));
        edges.due(1, Edges.told("bb0998;bb0999;bb0999;").richest(0));
        edges.due(1, Edges.told("bb0998;bb0999;bb0998;bb0000;").richest(0));
        edges.due(0, Edges.told("bb0002;bb0001;bb0000;bb0001;").richest(0));
        LiesBoughtBack x = Edges.told("cl00;cw55;", "bs0000;bs0000;bs0000;bs0000;bs0000;br0999;g00;");
        edges.due(0, x.richest(1));
        x.turn(5, 0, 1);
        x.sells(1);
        edges.due(52, x.bidder(5, 3));
        edges.due(5, x.richest(1));
        edges.due(0, Edges.told("cl00;", "bb0009;bs0000;bs0000;m01;").richest(1));
        // Believed 0, by greatest lies that another has.
        x = Edges.told("cg90;cg90;cg90;cg90;", "bs0000;bf0999;m01;");
        edges.due(0, x.bidder(0, 3));
        edges.due(1, x.richest(1));
        x = Edges.told("cg90;cg90;cg90;cg90;", "bs0000;");
        Edges.tell(x, "bf0999;m01;");
        edges.due(1, x.richest(0));
        edges.by(26, "DEAREST: the CARD of most WORTH, of several the least; -9.");
        edges.due(-9, Edges.told("bb0000;").richest(2));
        edges.due(0, Edges.told("cw00;cw90;").richest(2));
        edges.due(7, Edges.told("cg80;".repeat(7), "cg90;").richest(2));
        edges.due(1, Edges.told("cg80;cg90;cg90;").richest(2));
        edges.due(1, Edges.told("cg80;cg90;cg80;cw00;").richest(2));
        // Held or not.
        edges.due(1, Edges.told("cl00;cl90;bb0000;g10;").richest(2));
    }

    private static void owned() {
        LiesBoughtBack all = Edges.told("cl00;cl01;cl02;cl03;cl04;cl05;cl00;cl01;",
                "bb0999;bb0999;bb0999;bb0999;bb0999;bb0999;",
                "g00;g11;g22;g33;g44;g55;g60;g71;");
        LiesBoughtBack others = Edges.told("cl01;cl01;cl02;cl03;cl04;cl05;cl05;cl05;",
                "bb0000;g00;g10;g20;g30;g40;g50;g60;g70;");
        LiesBoughtBack mixed = Edges.told("cl00;cl00;cl01;cl01;", "bb0000;bb0001;bb0000;g00;g11;g30;");
        edges.by(27, "OWN: CARDS (bits) HELD by those who TOLD them.");
        edges.due(0, States.empty().owned(0));
        edges.due(255, all.owned(0));
        edges.due(0, others.owned(0));
        edges.due(1, mixed.owned(0));
        edges.by(27, "OTHERS: CARDS (bits) HELD by somebody else.");
        edges.due(0, States.empty().owned(1));
        edges.due(0, all.owned(1));
        edges.due(255, others.owned(1));
        edges.due(10, mixed.owned(1));
        edges.by(5, "HELD by one: bits.");
        edges.due(255, others.bidder(0, 4));
        edges.due(65, all.bidder(0, 4));
        edges.due(130, all.bidder(1, 4));
        edges.due(32, all.bidder(5, 4));
        edges.dueAll(mixed, "bidder", 4, 9, 2, 0);
        edges.by(27, "CLEAN: BIDDERS (bits) who TOLD none of the CARDS.");
        edges.due(0, States.empty().owned(2));
        edges.due(0, all.owned(2));
        edges.due(1, others.owned(2));
        edges.due(4, mixed.owned(2));
        edges.due(63, Edges.told("bb0000;".repeat(6)).owned(2));
        edges.due(31, Edges.told("cl05;", "bb0000;".repeat(6)).owned(2));
        edges.due(3, Edges.told("cl05;", "bb0000;".repeat(2)).owned(2));
        edges.by(27, "SPENT: PURSES of all.");
        edges.due(0, States.empty().owned(3));
        edges.due(5994, all.owned(3));
        edges.due(1, mixed.owned(3));
    }

    private static void rivals() {
        edges.by(4, "RIVALS: how many would bid 1 or more for a CARD now.");
        edges.due(0, Edges.told("cl00;").card(0, 7));
        edges.due(0, Edges.told("ck05;cl05;", "bb9999;bb9000;bs9999;bh9999;").card(0, 7));
        edges.due(1, Edges.told("ck05;cl05;", "bb9999;bb9000;bs9999;bh9999;").card(1, 7));
        edges.due(6, Edges.told("cl00;", "bf0001;".repeat(6)).card(0, 7));
        edges.due(4, Edges.told("cg91;", "bf0999;bb0002;bs0001;be0024;bh9999;bb0000;").card(0, 7));
        // Held, too: its holder among them.
        edges.due(2, Edges.told("cl00;", "bf0001;bf0001;g01;").card(0, 7));
    }

    private static void two() {
        edges.by(28, "TWO BIDDERS, a CARD IN THE PILE: each bids (1) or stays away (0) when it is AUCTIONED now, "
                + "all others bid");
        // Nobody could bid: of all pairs, which are alike, the first.
        LiesBoughtBack x = Edges.told("cl50;", "bb0000;bb0000;");
        edges.due(0, x.two(0, 1, 0));
        edges.due(0, x.two(1, 0, 0));
        x.pays(0, 9);
        edges.due(10, x.two(0, 1, 0));
        edges.due(1, x.two(1, 0, 0));
        x.pays(0, 0);
        x.pays(1, 4);
        edges.due(1, x.two(0, 1, 0));
        edges.due(10, x.two(1, 0, 0));
        x.pays(0, 4);
        edges.due(10, x.two(0, 1, 0));
        edges.due(1, x.two(1, 0, 0));
        // The last of six and of eight; all others bid, whatever the two do.
        x = Edges.told("cw00;cw00;cw00;cw00;cw00;cw00;cw00;cl95;", "bf0000;bf0000;bf0000;bf0000;bf0000;bb0009;");
        edges.due(1, x.two(0, 5, 7));
        edges.due(10, x.two(5, 4, 7));
    }

    /** The first has told the 8 or not; the third, a fool, bids his purse. */
    private static int against(String first, int teller, int purse) {
        return Edges.told("cl5" + teller + ";", first + "bb0000;bf0" + String.format("%03d", purse) + ";").two(0, 1, 0);
    }

    private static void twoWants() {
        edges.by(28, "each wants its WORTH less what he pays, if he HOLDS it then, else 0, 3 less if somebody "
                + "else than he does and he TOLD it: the first pair (10 the first's and the other's) by which "
                + "neither has more by another one alone; -9.");
        // He told it: at 10 he is 2 below 0, which is more than 3 less; at 11 he has no more by it.
        edges.due(10, against("bb9999;", 0, 9));
        edges.due(0, against("bb9999;", 0, 10));
        edges.due(0, against("bb9999;", 0, 11));
        // Another told it: at 7 he has 1, at 8 nothing more.
        edges.due(10, against("br0999;", 5, 6));
        edges.due(0, against("br0999;", 5, 7));
        edges.due(0, against("br0999;", 5, 8));
        // Nobody else holds what nobody bids for: he has no more by paying 1 for 1 than by staying away.
        edges.due(0, Edges.told("ct00;", "bb0009;bb0000;").two(0, 1, 0));
        edges.due(10, Edges.told("ct10;", "bb0009;bb0000;").two(0, 1, 0));
        // The teller is the other: he loses 3 by each who holds it instead.
        edges.due(1, Edges.told("cl51;", "bb0000;bb9999;bf0009;").two(0, 1, 0));
        edges.due(0, Edges.told("cl51;", "bb0000;bb9999;bf0010;").two(0, 1, 0));
    }

    private static void chance(long above, long below, LiesBoughtBack x, int bidder, int card, int n, int t) {
        edges.due(above, x.stutter(bidder, card, n, t, 0));
        edges.due(below, x.stutter(bidder, card, n, t, 1));
    }

    private static void stutter() {
        edges.by(29, "STUTTER: in each of n MONTHS (0 .. 7), by itself, with odds 1 in t (2 .. 20) nothing is "
                + "AUCTIONED (all else is as told): how likely one HOLDS a CARD behind these: a fraction.");
        LiesBoughtBack x = Edges.told("cl50;", "bb5020;bb0000;");
        chance(0, 1, x, 0, 0, 0, 2);
        chance(0, 1, x, 0, 0, 0, 20);
        chance(1, 2, x, 0, 0, 1, 2);
        chance(19, 20, x, 0, 0, 1, 20);
        chance(127, 128, x, 0, 0, 7, 2);
        chance(1279999999L, 1280000000L, x, 0, 0, 7, 20);
        chance(0, 1, x, 1, 0, 7, 20);
        x.gives(0, 1);
        chance(1, 1, x, 1, 0, 0, 2);
        chance(1, 1, x, 1, 0, 7, 20);
        chance(0, 1, x, 0, 0, 7, 20);
        // All else is as told: it grows old, and worth 1 nobody bids for it; or purses grow, and the other has enough.
        chance(1, 2, Edges.told("co05;m05;", "bb0009;"), 0, 0, 2, 2);
        chance(3, 4, Edges.told("co05;m04;", "bb0009;"), 0, 0, 2, 2);
        LiesBoughtBack poor = Edges.told("cl51;", "bb0004;bb0000;");
        chance(3, 4, poor, 0, 0, 2, 4);
        chance(3, 16, poor, 1, 0, 2, 4);
        chance(3, 4, poor, 0, 0, 7, 4);
        chance(4095, 16384, poor, 1, 0, 7, 4);
    }

    private static void mean() {
        edges.by(30, "MEAN: of PURSES: a fraction (0 by 1 of nobody).");
        String[] halls = {"cl00;", "bb0000;", "bb0000;bb0000;", "bb0999;bb0999;bb0999;bb0999;bb0999;bb0999;",
            "bb0000;bb0000;bb0000;bb0000;bb0000;bb0001;", "bb0002;bb0001;bb0001;bb0000;", "bb0999;bb0998;"};
        int[] above = {0, 0, 0, 999, 1, 1, 1997};
        int[] below = {1, 1, 1, 1, 6, 1, 2};
        for (int i = 0; i < halls.length; i++) {
            edges.due(above[i], Edges.told(halls[i]).mean(0));
            edges.due(below[i], Edges.told(halls[i]).mean(1));
        }
        edges.due(0, States.empty().mean(0));
        edges.due(1, States.empty().mean(1));
    }

    private static void rowOf(LiesBoughtBack x, int... numbers) {
        x.clear();
        for (int number : numbers) {
            x.row(number);
        }
    }

    private static void whoTold() {
        edges.by(31, "WHO TOLD IT: a ROW tells who HOLDS CARDS 0, 1, .. behind the next MONTH (9 nobody): TELLERS "
                + "0 .. 5 (bits) a told CARD could have by which all of it is so (no such CARD: not); KINDS "
                + "(bits) of it.");
        // Who told it bids 8 and holds it; told by 5, who is not there, all bid 4, and the least holds it.
        LiesBoughtBack x = Edges.told("cl55;", "bb0099;bb0099;bb0099;bb0099;bb0099;");
        edges.due(63, x.whoTold(0, 0));
        edges.due(63, x.whoTold(0, 1));
        int[] tellers = {33, 2, 4, 8, 16, 0, 0, 0, 0, 0, 0};
        for (int who = 0; who < tellers.length; who++) {
            rowOf(x, who);
            edges.due(tellers[who], x.whoTold(0, 0));
            edges.due(1, x.count(6));
        }
        rowOf(x, 0);
        edges.due(47, x.whoTold(0, 1));
        rowOf(x, 9);
        edges.due(16, x.whoTold(0, 1));
        for (int number : new int[] {1, 8, 10, 98, 99}) {
            rowOf(x, number);
            edges.due(0, x.whoTold(0, 1));
        }
        // A row of a card more than there are is never so, whatever it tells of that.
        for (int number : new int[] {0, 9, 99}) {
            rowOf(x, 0, number);
            edges.due(0, x.whoTold(0, 0));
            edges.due(0, x.whoTold(0, 1));
        }
        edges.due(5, x.card(0, 2));
        edges.due(0, x.card(0, 0));
        LiesBoughtBack full = Edges.told("cw05;".repeat(7), "cl50;bb0099;g50;");
        rowOf(full, 9, 9, 9, 9, 9, 0, 9, 0);
        edges.due(63, full.whoTold(7, 0));
        edges.due(47, full.whoTold(7, 1));
        edges.due(63, full.whoTold(5, 1));
        rowOf(full, 9, 9, 9, 9, 9, 9, 9, 0);
        edges.due(0, full.whoTold(7, 0));
        rowOf(full, 9, 9, 9, 9, 9, 0, 9, 9);
        edges.due(16, full.whoTold(7, 1));
        rowOf(full, 9, 9, 9, 9, 9, 0, 9, 0, 9);
        edges.due(0, full.whoTold(7, 0));
        rowOf(full, 9, 9, 9, 9, 9, 0);
        edges.due(63, full.whoTold(7, 1));
        edges.due(63, States.few().whoTold(1, 0));
        // Behind one month, not two: he has nothing to bid with in the first.
        LiesBoughtBack poor = Edges.told("cl05;", "bb0000;");
        rowOf(poor, 9);
        edges.due(63, poor.whoTold(0, 0));
        edges.due(63, poor.whoTold(0, 1));
        rowOf(poor, 0);
        edges.due(0, poor.whoTold(0, 0));
        edges.due(0, poor.whoTold(0, 1));
    }

    private static int judged(LiesBoughtBack x, int... numbers) {
        rowOf(x, numbers);
        int answer = x.judge();
        edges.due(0, x.count(6));
        return answer;
    }

    private static void judged() {
        edges.by(33, "A ROW of numbers (0 .. 99; 16 at most): JUDGED: WORTH of CARDS 0, 1, ..: the first that is "
                + "not so (none there, too); -9.");
        LiesBoughtBack x = Edges.told("cw00;cl00;cg90;cl90;ck00;co10;ct50;cg00;");
        edges.due(-9, judged(x));
        edges.due(-9, judged(x, 0));
        edges.due(-9, judged(x, 0, 3, 48, 12, 1, 4, 4, 12));
        edges.due(7, judged(x, 0, 3, 48, 12, 1, 4, 4, 11));
        edges.due(7, judged(x, 0, 3, 48, 12, 1, 4, 4, 13));
        edges.due(0, judged(x, 1, 3, 48, 12, 1, 4, 4, 13));
        edges.due(2, judged(x, 0, 3, 99));
        edges.due(2, judged(x, 0, 3, 0, 0));
        edges.due(8, judged(x, 0, 3, 48, 12, 1, 4, 4, 12, 0));
        edges.due(8, judged(x, 0, 3, 48, 12, 1, 4, 4, 12, 99, 99, 99, 99, 99, 99, 99, 0));
        edges.due(0, judged(x, 99, 3, 48, 12, 1, 4, 4, 12, 0, 0, 0, 0, 0, 0, 0, 0));
        edges.due(-9, judged(States.empty()));
        edges.due(0, judged(States.empty(), 0));
    }

    private static void lots() {
        edges.by(35, "LOTS with a seed z: n halls (1 .. 20), each from now: PURSE of each, by numbers, by a DRAW "
                + "below 100, all CARDS IN THE PILE; then 2 MONTHS: HELD of all together; BELIEVED of all.");
        for (int z : new int[] {0, 1, -1, Edges.MIN, Edges.MAX}) {
            edges.due(0, States.empty().lots(20, z, 0));
            edges.due(0, States.empty().lots(20, z, 1));
            LiesBoughtBack nobody = Edges.told("cl00;".repeat(8));
            edges.due(0, nobody.lots(20, z, 0));
            LiesBoughtBack held = Edges.told("cw00;cl00;", "bb0000;g00;g10;");
            // The white one, which nobody bids for, is in the pile again; the other is bought back.
            edges.due(1, held.lots(1, z, 0));
            edges.due(20, held.lots(20, z, 0));
            edges.due(52, held.lots(1, z, 1));
            edges.due(1040, held.lots(20, z, 1));
            LiesBoughtBack believed = Edges.told("cl00;", "bb0001;m01;");
            edges.due(54, believed.lots(1, z, 1));
            edges.due(108, believed.lots(2, z, 1));
        }
        // By this seed both draws are 0: nothing is sold in the first month, 6 in the second, not yet the last 2.
        edges.due(6, slow().lots(1, 45897, 0));
        // As old as now: worth 2 and half of it 1 at 5; one month later, or behind a draw of 0, nothing.
        edges.due(1, Edges.told("co05;m05;", "bb0000;").lots(1, 0, 0));
        edges.due(0, Edges.told("co05;m06;", "bb0000;").lots(1, 0, 0));
        edges.due(0, Edges.told("co05;m05;", "bb0000;").lots(1, 45897, 0));
    }

    private static void draws() {
        edges.by(35, "A DRAW below m: z becomes z times 1664525 and 1013904223 (an int); (z without its sign's "
                + "bit by 256, cut) modulo m.");
        // By these seeds the two have 0 and 0, 0 and 1, .. in their purses; they bid 13 and 9 at most.
        LiesBoughtBack x = Edges.told("cl50;", "bb5020;br0020;");
        int[] seeds = {45897, 3297, 22763, 7992, 2808, 1830, 2176, 4719, 9700, 3882, 73, 0, -1, Edges.MAX, Edges.MIN};
        int[] believed = {102, 97, 102, 102, 97, 97, 102, 102, 102, 97, 102, 102, 102, 102, 102};
        for (int i = 0; i < seeds.length; i++) {
            edges.due(believed[i], x.lots(1, seeds[i], 1));
            edges.due(1, x.lots(1, seeds[i], 0));
        }
        // Draw by draw from hall to hall, as the document words it.
        for (int z : new int[] {0, 1, -1, 12345, -777, Edges.MIN, Edges.MAX}) {
            int all = 0;
            int[] seed = {z};
            for (int n = 1; n <= 20; n++) {
                int first = Math.min(13, draw(seed));
                int second = Math.min(9, draw(seed));
                all += first >= second ? 102 : 97;
                edges.due(all, x.lots(n, z, 1));
            }
        }
    }

    private static int draw(int[] seed) {
        seed[0] = seed[0] * 1664525 + 1013904223;
        return (seed[0] & Integer.MAX_VALUE) / 256 % 100;
    }

    private static void image() {
        edges.by(37, "THE IMAGE: all that there is, but it, the ROW, letters, REFUSALS; ON from it all is as then.");
        LiesBoughtBack x = States.full();
        x.on();
        LiesBoughtBack y = States.full();
        y.on();
        for (int card = 7; card >= 0; card--) {
            y.swaps(card, (card + 1) % 8);
            y.gives(card, card % 6);
        }
        for (int bidder = 0; bidder < 6; bidder++) {
            y.pays(bidder, 999 - bidder);
            y.turn(bidder, 5 - bidder, 9 - bidder);
        }
        y.returns(0);
        y.sells(0);
        y.returns(1);
        y.months(60);
        edges.due(7, y.on());
        edges.dueAlike(x, y);
        // An image of nothing; later ones instead of it; more than once.
        x = States.empty();
        edges.due(0, x.image());
        x.row(5);
        x.letter('c');
        x.letter(-1);
        Edges.tell(x, "l00;bb0005;m01;");
        x.letter('r');
        edges.due(1, x.count(2));
        edges.due(0, x.on());
        edges.due(0, x.count(0));
        edges.due(0, x.count(1));
        edges.due(1, x.count(6));
        edges.due(1, x.count(7));
        edges.due(1, x.count(14));
        Edges.tell(x, "0;");
        Edges.tell(x, "cl00;m02;");
        edges.due(2, x.image());
        x.months(1);
        edges.due(2, x.on());
        x.months(2);
        edges.due(2, x.on());
        edges.due(2, x.card(0, 3));
    }

    private static void fractions() {
        edges.by(30, "Fractions are told in least terms; 0 as 0 by 1.");
        for (int purse = 0; purse <= 12; purse++) {
            LiesBoughtBack x = Edges.told("bb0000;".repeat(5), "bb00" + String.format("%02d", purse) + ";");
            int common = purse % 6 == 0 ? 6 : purse % 3 == 0 ? 3 : purse % 2 == 0 ? 2 : 1;
            edges.due(purse / common, x.mean(0));
            edges.due(6 / common, x.mean(1));
        }
        LiesBoughtBack x = Edges.told("cl50;", "bb5020;");
        chance(15, 16, x, 0, 0, 2, 4);
        chance(0, 1, x, 0, 0, 0, 4);
        chance(3, 4, x, 0, 0, 1, 4);
    }
}
