/** What each promise says itself, at the least and the greatest that it takes, on the empty and the full. */
final class PromiseEdges {
    private static Edges edges;

    static void ask(Edges by) {
        edges = by;
        newObject();
        card();
        bidder();
        bids();
        pays();
        returns();
        gives();
        swaps();
        sells();
        turn();
        months();
        then();
        whenFirst();
        gets();
        plans();
        whats();
        two();
        stutterAndMean();
        whoTold();
        row();
        lots();
        image();
        count();
    }

    private static void newObject() {
        edges.by(1, "No CARDS, nobody, MONTH 0.");
        LiesBoughtBack x = new LiesBoughtBack();
        edges.due(0, x.count(0));
        edges.due(0, x.count(1));
        edges.due(0, x.count(2));
        edges.due(-1, x.card(0, 0));
        edges.due(-1, x.bidder(0, 0));
        edges.due(-1000, x.hall());
        edges.due(-9, x.judge());
        edges.due(0, x.clear());
        edges.due(-3, x.on());
        edges.due(0, x.image());
        // One object knows nothing of another.
        LiesBoughtBack full = States.full();
        edges.dueAlike(new LiesBoughtBack(), new LiesBoughtBack());
        edges.due(8, full.count(0));
    }

    private static void card() {
        edges.by(4, "Of a CARD: 0 KIND (0 l, 1 k, 2 g, 3 o, 4 w, 5 t), 1 FIGURE, 2 TELLER, 3 AGE, 4 who HOLDS it "
                + "(-9), 5 WORTH, 6 its place in THE ORDER, 7 RIVALS.");
        LiesBoughtBack x = Edges.told("cl10;ck21;cg32;co43;cw54;ct65;cl75;cg90;", "x07;m03;bf0001;bf0001;bh0000;g71;");
        edges.dueAll(x, "card", 0, 0, 1, 2, 3, 4, 5, 0, 2);
        edges.dueAll(x, "card", 1, 1, 2, 3, 4, 5, 6, 7, 9);
        edges.dueAll(x, "card", 2, 0, 1, 2, 3, 4, 5, 5, 0);
        edges.dueAll(x, "card", 3, 3, 3, 3, 3, 3, 3, 3, 3);
        edges.dueAll(x, "card", 4, -9, -9, -9, -9, -9, -9, -9, 1);
        edges.dueAll(x, "card", 5, 4, 2, 24, 6, 0, 4, 10, 48);
        edges.dueAll(x, "card", 6, 7, 1, 2, 3, 4, 5, 6, 0);
        edges.dueAll(x, "card", 7, 2, 2, 2, 2, 2, 2, 2, 2);
    }

    private static void bidder() {
        edges.by(5, "Of one: 0 KIND (0 b, 1 s, 2 e, 3 r, 4 h, 5 f), 1 FIGURE, 2 PURSE, 3 BELIEVED, 4 HELD (bits).");
        LiesBoughtBack x = Edges.told("bb0000;bs1001;be3030;br4998;bh5999;bf9017;", "cl05;".repeat(8),
                "g00;g75;g65;g24;");
        edges.dueAll(x, "bidder", 0, 0, 1, 2, 3, 4, 5);
        edges.dueAll(x, "bidder", 1, 0, 1, 3, 4, 5, 9);
        edges.dueAll(x, "bidder", 2, 0, 1, 30, 998, 999, 17);
        edges.dueAll(x, "bidder", 3, 50, 50, 50, 50, 50, 50);
        edges.dueAll(x, "bidder", 4, 1, 0, 0, 0, 4, 192);
    }

    private static void bids() {
        edges.by(6, "The most he bids now.");
        LiesBoughtBack x = Edges.told("cl00;".repeat(7), "co95;", "bb0000;bb0000;bb0000;bb0000;bb0000;bf9999;");
        edges.due(52, x.bids(5, 7));
        x.gives(7, 5);
        edges.due(52, x.bids(5, 7));
        edges.due(0, x.bids(0, 0));
        x.returns(7);
        x.turn(5, 0, 0);
        edges.due(12, x.bids(5, 7));
        x.pays(5, 11);
        edges.due(11, x.bids(5, 7));
        x.pays(5, 0);
        edges.due(0, x.bids(5, 7));
        x = Edges.told("co90;m03;bb0999;");
        edges.due(11, x.bids(0, 0));
    }

    private static void pays() {
        edges.by(7, "PURSE becomes v: what it was.");
        LiesBoughtBack x = Edges.told("bb0001;bb0002;bb0003;bb0004;bb0005;bb0006;");
        edges.due(1, x.pays(0, 0));
        edges.due(0, x.pays(0, 999));
        edges.due(999, x.pays(0, 998));
        edges.due(6, x.pays(5, 6));
        edges.due(6, x.pays(5, 1));
        edges.dueAll(x, "bidder", 2, 998, 2, 3, 4, 5, 1);
    }

    private static void returns() {
        edges.by(8, "It is IN THE PILE again: who HELD it.");
        LiesBoughtBack x = Edges.told("cl00;".repeat(8), "bb0009;bb0000;bb0000;bb0000;bb0000;bb0000;g00;g75;m02;g00;");
        edges.due(5, x.returns(7));
        edges.due(-9, x.card(7, 4));
        edges.due(128, x.count(3) & 128);
        edges.due(0, x.card(7, 3));
        edges.due(0, x.returns(0));
        edges.due(-3, x.returns(0));
        // Neither purse nor belief comes back with it.
        int purse = x.bidder(5, 2);
        edges.due(10, purse);
        edges.due(50, x.bidder(5, 3));
    }

    private static void gives() {
        edges.by(9, "He HOLDS it: who did (-9).");
        LiesBoughtBack x = Edges.told("cl00;".repeat(8), "bb0009;bb0000;bb0000;bb0000;bb0000;bb0000;");
        edges.due(-9, x.gives(0, 0));
        edges.due(-9, x.gives(7, 5));
        edges.due(5, x.gives(7, 5));
        edges.due(5, x.gives(7, 0));
        edges.due(0, x.card(7, 4));
        edges.due(129, x.bidder(0, 4));
        edges.due(0, x.bidder(5, 4));
        edges.due(9, x.bidder(0, 2));
        edges.dueAll(x, "bidder", 3, 50, 50, 50, 50, 50, 50);
        edges.due(0, x.card(7, 3));
        edges.due(7, x.card(7, 6));
    }

    private static void swaps() {
        edges.by(10, "They change places in THE ORDER: the place of the first then.");
        LiesBoughtBack x = Edges.told("cl00;".repeat(8), "bb0000;g00;");
        edges.due(7, x.swaps(0, 7));
        edges.dueAll(x, "card", 6, 7, 1, 2, 3, 4, 5, 6, 0);
        edges.due(0, x.swaps(1, 7));
        edges.dueAll(x, "card", 6, 7, 0, 2, 3, 4, 5, 6, 1);
        edges.due(0, x.swaps(0, 1));
        edges.due(7, x.swaps(0, 1));
        // One behind the other, a held one too.
        edges.due(3, x.swaps(2, 3));
        edges.dueAll(x, "card", 6, 7, 0, 3, 2, 4, 5, 6, 1);
    }

    private static void sells() {
        edges.by(11, "It is AUCTIONED: who HOLDS it then; -9.");
        LiesBoughtBack x = Edges.told("cl05;".repeat(8), "bs0000;bs0000;bs0000;bs0000;bs0000;bf0002;");
        edges.due(5, x.sells(7));
        edges.due(5, x.sells(0));
        edges.due(-9, x.sells(1));
        edges.due(-9, x.sells(1));
        edges.due(129, x.bidder(5, 4));
        edges.due(54, x.bidder(5, 3));
        // No month has gone by.
        edges.due(0, x.bidder(5, 2));
        edges.due(0, x.card(1, 3));
        edges.due(0, x.count(2));
        // Auctioned out of its turn by the order.
        x.pays(5, 1);
        x.swaps(1, 6);
        edges.due(5, x.sells(1));
        edges.due(-9, Edges.told("cl00;").sells(0));
    }

    private static void turn() {
        edges.by(12, "KIND, FIGURE become others: 10 times the KIND and the FIGURE it had.");
        LiesBoughtBack x = Edges.told("bb0007;bb0000;bb0000;bb0000;bb0000;bf9000;");
        edges.due(59, x.turn(5, 0, 0));
        edges.due(0, x.turn(5, 5, 9));
        edges.due(0, x.turn(0, 0, 9));
        edges.due(9, x.turn(0, 5, 0));
        edges.due(50, x.turn(0, 5, 0));
        for (int kind = 0; kind <= 5; kind++) {
            x.turn(1, kind, 9 - kind);
            edges.due(kind, x.bidder(1, 0));
            edges.due(10 * kind + 9 - kind, x.turn(1, kind, 9 - kind));
        }
        edges.due(7, x.bidder(0, 2));
        edges.due(50, x.bidder(0, 3));
        edges.dueAll(x, "bidder", 0, 5, 5, 0, 0, 0, 5);
        edges.dueAll(x, "bidder", 1, 0, 4, 0, 0, 0, 9);
    }

    private static void months() {
        edges.by(13, "n MONTHS (1 .. 60) go by: how many CARDS are HELD.");
        LiesBoughtBack x = Edges.told("cw05;cl05;cl05;", "bf0000;");
        edges.due(0, x.months(1));
        edges.due(3, x.months(1));
        edges.due(3, x.months(60));
        edges.due(62, x.count(2));
        x = Edges.told("cw05;cl05;cl05;", "bf0000;");
        edges.due(3, x.months(60));
        edges.due(60, x.count(2));
        edges.due(297, x.bidder(0, 2));
        edges.due(8, Edges.told("cl05;".repeat(8), "bf0008;").months(1));
        edges.due(8, Edges.told("cl05;".repeat(8), "bf0000;g00;g10;g20;g30;g40;g50;g60;g70;").months(1));
        edges.due(0, States.empty().months(60));
        edges.due(0, States.late(939).months(60));
        edges.due(0, States.late(998).months(1));
        x = States.late(940);
        edges.due(0, x.months(59));
        edges.due(999, x.count(2));
    }

    private static void then() {
        LiesBoughtBack x = Edges.told("cw05;".repeat(7), "cl05;", "bs0000;bs0000;bs0000;bs0000;bs0000;bh0000;");
        edges.by(14, "Who HOLDS it; -9.");
        edges.due(-9, x.cardThen(7, 0));
        edges.due(-9, x.cardThen(7, 1));
        edges.due(5, x.cardThen(7, 2));
        edges.due(5, x.cardThen(7, 60));
        edges.due(-9, x.cardThen(0, 60));
        edges.by(15, "PURSE (what 0), BELIEVED (1).");
        edges.due(0, x.bidderThen(5, 0, 0));
        edges.due(5, x.bidderThen(5, 1, 0));
        edges.due(9, x.bidderThen(5, 2, 0));
        edges.due(299, x.bidderThen(5, 60, 0));
        edges.due(50, x.bidderThen(5, 1, 1));
        edges.due(52, x.bidderThen(5, 2, 1));
        edges.due(52, x.bidderThen(5, 60, 1));
        edges.due(300, x.bidderThen(0, 60, 0));
        edges.by(16, "THE PILE (bits).");
        edges.due(255, x.pileThen(0));
        edges.due(255, x.pileThen(1));
        edges.due(127, x.pileThen(2));
        edges.due(127, x.pileThen(60));
        x.gives(0, 0);
        edges.due(254, x.pileThen(0));
    }

    private static void whenFirst() {
        LiesBoughtBack x = Edges.told("cl05;".repeat(7), "cw00;", "bf0007;bs0000;bs0000;bs0000;bs0000;bs0000;");
        edges.by(17, "SOLD; -9.");
        edges.due(1, x.sold(0));
        edges.due(1, x.sold(6));
        edges.due(2, x.sold(7));
        x.gives(7, 5);
        edges.due(0, x.sold(7));
        edges.due(-9, Edges.told("cw05;".repeat(8), "bs9999;").sold(7));
        edges.by(19, "OUT; -9.");
        edges.due(1, x.out());
        x.returns(7);
        edges.due(2, x.out());
        x.turn(0, 0, 0);
        edges.due(-9, x.out());
        edges.by(20, "RUINED; -9.");
        String cards = "cg95;cg95;cg95;cg95;";
        edges.due(1, Edges.told(cards, "bf0999;bs0000;bs0000;bs0000;bs0000;bs0000;").ruined(5));
        edges.due(-9, Edges.told(cards, "bf0999;bs0000;bs0000;bs0000;bs0000;").ruined(4));
        edges.due(-9, Edges.told(cards, "bf0999;bs0000;bs0000;bs0000;bs0000;bs0000;").ruined(0));
    }

    private static void gets() {
        edges.by(18, "GETS: who (what 0; -9), for how much (1; -9).");
        LiesBoughtBack x = Edges.told("cw05;".repeat(7), "cg95;", "bs0000;bs0000;bs0000;bs0000;bf0020;bf0021;");
        edges.due(5, x.gets(7, 0));
        edges.due(21, x.gets(7, 1));
        edges.due(4, x.gets(0, 0));
        edges.due(10, x.gets(0, 1));
        x.pays(4, 0);
        x.pays(5, 0);
        edges.due(-9, x.gets(0, 0));
        edges.due(-9, x.gets(0, 1));
        edges.due(-9, x.gets(7, 0));
        edges.due(-9, x.gets(7, 1));
    }

    private static void plans() {
        edges.by(21, "PURSE FOR; -9.");
        LiesBoughtBack x = Edges.told("cw05;".repeat(7), "cl55;", "bb0000;bb0000;bb0000;bb0000;bb0003;bb0000;");
        edges.due(3 + 1, x.purseFor(5, 7));
        edges.due(3, x.purseFor(0, 7));
        edges.due(-9, x.purseFor(1, 6));
        edges.by(22, "FIRST; -9.");
        x = Edges.told("cg95;", "cl05;".repeat(7), "bs0000;bs0000;bs0000;bs0000;bb0009;bf0010;");
        // Card 0 takes all that the fool has; behind another he has it too, so that these are 2.
        edges.due(-9, x.first(5, 0));
        edges.due(1, x.first(5, 1));
        edges.due(-9, x.first(0, 20));
        edges.due(-9, States.few().first(1, 20));
        edges.by(23, "GIVE; -9.");
        x = Edges.told("cw05;".repeat(7), "cl55;", "bf0999;bs0000;bs0000;bs0000;bs0000;bs0000;");
        edges.due(-9, x.give(0));
        edges.due(7, x.give(1));
        edges.due(7, x.give(20));
        x.gives(7, 0);
        edges.due(0, x.give(20));
        edges.due(-9, States.empty().give(0));
        edges.by(24, "POOL; -9.");
        x = Edges.told("cl95;", "bb0005;bb0000;bb0000;bb0000;bb0004;bb0002;");
        edges.due(-9, x.pool(5, 0));
        edges.due(0, x.pool(5, 1));
        edges.due(0, x.pool(5, 20));
        x.pays(0, 0);
        edges.due(4, x.pool(5, 1));
        edges.due(-9, x.pool(4, 20));
        edges.due(5, Edges.told("cl90;", "bb9000;bb0000;bb0000;bb0005;bb0000;bb0006;").pool(0, 1));
    }

    private static void whats() {
        LiesBoughtBack x = Edges.told("cl00;", "bs0000;bs0000;bs0000;bf0004;bf0004;bf0009;");
        edges.by(25, "STAY: who (what 0; -9), that (1; -9).");
        edges.due(5, x.stay(0));
        edges.due(4, x.stay(1));
        edges.due(-9, States.empty().stay(0));
        edges.due(-9, States.empty().stay(1));
        edges.by(26, "RICHEST (what 0), TRUSTED (1), DEAREST (2); -9.");
        x = Edges.told("cl00;".repeat(6), "cg95;cg95;", "bs0000;bs0000;bs0000;bs0000;bs0000;bf0999;g75;");
        edges.due(5, x.richest(0));
        edges.due(0, x.richest(1));
        edges.due(6, x.richest(2));
        x.sells(6);
        edges.due(5, x.richest(1));
        for (int what = 0; what <= 2; what++) {
            edges.due(-9, States.empty().richest(what));
        }
        edges.by(27, "OWN (what 0, bits), OTHERS (1, bits), CLEAN (2, bits), SPENT (3).");
        x.gives(0, 5);
        edges.due(192, x.owned(0));
        edges.due(1, x.owned(1));
        edges.due(30, x.owned(2));
        edges.due(998, x.owned(3));
        for (int what = 0; what <= 3; what++) {
            edges.due(0, States.empty().owned(what));
        }
    }

    private static void two() {
        edges.by(28, "TWO; -9.");
        LiesBoughtBack x = Edges.told("cw00;".repeat(7), "cl55;", "bb0000;bs0000;bs0000;bs0000;bs0000;bb0099;");
        edges.due(10, x.two(5, 0, 7));
        edges.due(1, x.two(0, 5, 7));
        edges.due(0, x.two(0, 1, 7));
        edges.due(0, x.two(0, 5, 0));
    }

    private static void stutterAndMean() {
        edges.by(29, "STUTTER, part 0 above, 1 below the line.");
        LiesBoughtBack x = Edges.told("cw00;".repeat(7), "cl55;", "bs0000;bs0000;bs0000;bs0000;bs0000;bb0099;");
        edges.due(19, x.stutter(5, 7, 1, 20, 0));
        edges.due(20, x.stutter(5, 7, 1, 20, 1));
        edges.due(399, x.stutter(5, 7, 2, 20, 0));
        edges.due(400, x.stutter(5, 7, 2, 20, 1));
        edges.due(0, x.stutter(5, 7, 0, 2, 0));
        edges.due(1, x.stutter(5, 7, 0, 2, 1));
        edges.due(0, x.stutter(0, 0, 7, 2, 0));
        edges.due(1, x.stutter(0, 0, 7, 2, 1));
        edges.by(30, "MEAN.");
        edges.due(33, x.mean(0));
        edges.due(2, x.mean(1));
    }

    private static void whoTold() {
        edges.by(31, "WHO TOLD IT by the ROW (it stays): TELLERS (what 0, bits), KINDS (1).");
        LiesBoughtBack x = Edges.told("cl55;", "bh0099;bh0099;bh0099;bh0099;bh0099;bh0099;");
        for (int who = 0; who <= 5; who++) {
            x.clear();
            x.row(who);
            edges.due(1 << who, x.whoTold(0, 0));
            edges.due(who == 5 ? 47 : 0, x.whoTold(0, 1));
            edges.due(1, x.count(6));
            edges.due(0, x.whoTold(0, 0) & ~63);
        }
        x.clear();
        x.row(9);
        edges.due(0, x.whoTold(0, 0));
        edges.due(16, x.whoTold(0, 1));
        edges.due(0, x.judge());
        // In the row there is what there was; the card is what it was.
        x.row(8);
        x.whoTold(0, 0);
        x.whoTold(0, 1);
        edges.due(-9, x.judge());
        edges.due(5, x.card(0, 2));
        edges.due(0, x.card(0, 0));
    }

    private static void row() {
        edges.by(32, "A number more of the ROW (0 .. 99): how many.");
        LiesBoughtBack x = States.empty();
        edges.due(1, x.row(0));
        edges.due(2, x.row(99));
        for (int i = 3; i <= 16; i++) {
            edges.due(i, x.row(i));
        }
        edges.due(16, x.count(6));
        edges.by(34, "The ROW has none then: how many it had.");
        edges.due(16, x.clear());
        edges.due(0, x.clear());
        edges.due(0, x.count(6));
        edges.due(1, x.row(99));
        edges.due(1, x.clear());
        edges.due(-9, x.judge());
        edges.by(33, "JUDGED; -9 (whichever it answers, the ROW has none then).");
        x = Edges.told("cl00;");
        edges.due(-9, x.judge());
        x.row(3);
        edges.due(-9, x.judge());
        edges.due(0, x.count(6));
        x.row(3);
        x.row(3);
        edges.due(1, x.judge());
        edges.due(0, x.count(6));
        x.row(2);
        edges.due(0, x.judge());
        edges.due(0, x.count(6));
        edges.due(-9, x.judge());
        for (int i = 1; i <= 16; i++) {
            edges.due(i, x.row(3));
        }
        edges.due(1, x.judge());
        edges.due(0, x.clear());
    }

    private static void lots() {
        edges.by(35, "LOTS: HELD (what 0), BELIEVED (1).");
        LiesBoughtBack x = Edges.told("cl00;".repeat(8), "bb0000;bb0000;bb0000;bb0000;bb0000;bb0000;");
        edges.due(300, Edges.told("bb0000;".repeat(6)).lots(1, 0, 1));
        edges.due(6000, Edges.told("bb0000;".repeat(6)).lots(20, Edges.MIN, 1));
        edges.due(0, Edges.told("bb0000;".repeat(6)).lots(20, Edges.MAX, 0));
        edges.due(8, x.lots(1, 0, 0));
        edges.due(160, x.lots(20, 0, 0));
        edges.due(255, x.count(3));
        edges.due(0, x.owned(3));
    }

    private static void image() {
        edges.by(36, "THE IMAGE is taken: MONTH.");
        edges.due(0, States.empty().image());
        edges.due(999, States.late(999).image());
        LiesBoughtBack x = States.late(7);
        edges.due(7, x.image());
        x.months(1);
        edges.due(8, x.image());
        edges.by(37, "ON from it: MONTH.");
        edges.due(8, x.on());
        x.months(60);
        edges.due(8, x.on());
        edges.due(8, x.count(2));
        edges.due(-9, x.card(0, 4));
        x = States.late(999);
        x.image();
        edges.due(999, x.on());
    }

    private static void count() {
        edges.by(38, "0 CARDS, 1 BIDDERS, 2 MONTH, 3 THE PILE (bits), 4 all WORTH, 5 all BELIEVED, 6 in the ROW, "
                + "7 letters, 11 .. 16 REFUSALS -1 .. -6.");
        LiesBoughtBack x = Edges.told("cg90;".repeat(8), "m60;bs0000;bs0000;bs0000;bs0000;bs0000;bf0999;g05;");
        for (int i = 0; i < 16; i++) {
            x.row(i);
        }
        Edges.letters(x, "r0;".repeat(32));
        int[] counts = {8, 6, 60, 254, 384, 300, 16, 96};
        for (int what = 0; what < counts.length; what++) {
            edges.due(counts[what], x.count(what));
        }
        for (int card = 1; card < 8; card++) {
            x.sells(card);
        }
        edges.due(0, x.count(3));
        edges.due(250, x.count(5));
        for (int refusals = 1; refusals <= 3; refusals++) {
            x.card(8, 0);
            x.card(0, 8);
            x.sells(0);
            x.row(-1);
            x.row(0);
            for (int what = 11; what <= 16; what++) {
                edges.due(what == 15 ? 0 : refusals, x.count(what));
            }
        }
        edges.by(38, "-9 for another what.");
        for (int what : new int[] {-1, 8, 9, 10, 17, 18, 27, 100, -11, -16, Edges.MIN, Edges.MAX, Edges.MIN + 11,
                Edges.MAX - 9}) {
            edges.due(-9, x.count(what));
            edges.changesNothing(States::full, "count", what);
        }
        edges.due(3, x.count(12));
    }
}
