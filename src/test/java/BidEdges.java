import java.util.Arrays;

/** What cards are worth, what bidders bid for them, auctions and months, each at its least and greatest. */
final class BidEdges {
    /** Fools 0 .. 4, who did not tell it, bid all that they have for it, up to 58. */
    private static final String GREAT_ONE = "cg95;";

    private static Edges edges;

    static void ask(Edges by) {
        edges = by;
        worths();
        worthsOfAge();
        plainBids();
        shyBids();
        enemyBids();
        richBids();
        husbandBids();
        foolBids();
        asAboveThem();
        whoHolds();
        whatIsPaid();
        believedMore();
        believedLess();
        nobodyBids();
        monthsOrder();
        monthsEnd();
    }

    /** What cards of a kind, of figures 0 .. 9, are worth at an age. */
    private static void worthsOf(char kind, int age, int... wants) {
        for (int figure = 0; figure <= 9; figure++) {
            edges.due(wants[figure], cardOfAge(kind, figure, age).card(0, 5));
        }
    }

    private static LiesBoughtBack cardOfAge(char kind, int figure, int age) {
        LiesBoughtBack x = Edges.told("c" + kind + figure + "5;");
        for (int left = age; left > 0; left -= 60) {
            x.months(Math.min(60, left));
        }
        return x;
    }

    private static void worths() {
        int[] nothing = new int[10];
        for (int age : new int[] {0, 1, 3, 99}) {
            edges.by(4, "KINDS of CARDS, what one is worth (0 at least): l LIE: FIGURE and 3.");
            worthsOf('l', age, 3, 4, 5, 6, 7, 8, 9, 10, 11, 12);
            edges.by(4, "k KIND ONE under LIE: half, cut.");
            worthsOf('k', age, 1, 2, 2, 3, 3, 4, 4, 5, 5, 6);
            edges.by(4, "g GREAT under LIE: 4 times.");
            worthsOf('g', age, 12, 16, 20, 24, 28, 32, 36, 40, 44, 48);
            edges.by(4, "w WHITE under KIND ONE: 0.");
            worthsOf('w', age, nothing);
        }
    }

    private static void worthsOfAge() {
        edges.by(4, "o OLD under LIE: less by a third, cut, of AGE.");
        int[][] olds = {{0, 3, 4, 5, 6, 7, 8, 9, 10, 11, 12}, {2, 3, 4, 5, 6, 7, 8, 9, 10, 11, 12},
            {3, 2, 3, 4, 5, 6, 7, 8, 9, 10, 11}, {5, 2, 3, 4, 5, 6, 7, 8, 9, 10, 11},
            {6, 1, 2, 3, 4, 5, 6, 7, 8, 9, 10},
            {8, 1, 2, 3, 4, 5, 6, 7, 8, 9, 10}, {9, 0, 1, 2, 3, 4, 5, 6, 7, 8, 9}, {12, 0, 0, 1, 2, 3, 4, 5, 6, 7, 8},
            {33, 0, 0, 0, 0, 0, 0, 0, 0, 0, 1}, {35, 0, 0, 0, 0, 0, 0, 0, 0, 0, 1}, {36, 0, 0, 0, 0, 0, 0, 0, 0, 0, 0},
            {39, 0, 0, 0, 0, 0, 0, 0, 0, 0, 0}, {99, 0, 0, 0, 0, 0, 0, 0, 0, 0, 0}};
        for (int[] old : olds) {
            worthsOf('o', old[0], Arrays.copyOfRange(old, 1, 11));
        }
        edges.by(4, "t TRUE under OLD: half of an OLD one's, cut.");
        for (int[] old : olds) {
            int[] halves = Arrays.copyOfRange(old, 1, 11);
            for (int i = 0; i < halves.length; i++) {
                halves[i] /= 2;
            }
            worthsOf('t', old[0], halves);
        }
        worthsOf('t', 0, 1, 2, 2, 3, 3, 4, 4, 5, 5, 6);
        worthsOf('t', 3, 1, 1, 2, 2, 3, 3, 4, 4, 5, 5);
        worthsOf('t', 38, 0, 0, 0, 0, 0, 0, 0, 0, 0, 0);
        edges.by(4, "what one is worth (0 at least)");
        edges.due(0, cardOfAge('o', 0, 12).card(0, 5));
        edges.due(0, cardOfAge('t', 0, 15).card(0, 5));
        edges.due(0, cardOfAge('t', 0, 99).card(0, 5));
    }

    /** The bid of a bidder, of a kind and with a figure and all the purse there can be, for a card. */
    private static int bid(char kind, int figure, String card) {
        return Edges.told(card, "b" + kind + figure + "999;").bids(0, 0);
    }

    /** For a card that he told he bids so much with so much in his purse. */
    private static void boundByPurse(char kind, String card, int wish) {
        LiesBoughtBack x = Edges.told(card, "b" + kind + "0000;");
        for (int purse : new int[] {0, 1, wish - 1, wish, wish + 1, 999}) {
            x.pays(0, purse);
            edges.due(Math.min(purse, wish), x.bids(0, 0));
        }
    }

    private static void plainBids() {
        edges.by(6, "b BIDDER: what it is worth and FIGURE, if he TOLD it, else half of what it is worth, cut.");
        edges.due(3, bid('b', 0, "cl00;"));
        edges.due(12, bid('b', 9, "cl00;"));
        edges.due(57, bid('b', 9, "cg90;"));
        edges.due(0, bid('b', 0, "cw00;"));
        edges.due(9, bid('b', 9, "cw00;"));
        edges.due(1, bid('b', 9, "cl01;"));
        edges.due(2, bid('b', 9, "cl11;"));
        edges.due(2, bid('b', 9, "cl21;"));
        edges.due(3, bid('b', 0, "cl31;"));
        edges.due(24, bid('b', 9, "cg95;"));
        edges.due(0, bid('b', 9, "ck05;"));
        edges.due(0, bid('b', 9, "cw05;"));
        edges.by(6, "the most one bids for a CARD (PURSE at most)");
        boundByPurse('b', "cl00;", 3);
        boundByPurse('b', "cl95;", 6);
        boundByPurse('s', "cl50;", 5);
        boundByPurse('e', "cl50;", 8);
        boundByPurse('r', "cl50;", 13);
        boundByPurse('h', "cl50;", 8);
        boundByPurse('f', "cl50;", 26);
        boundByPurse('f', "cw05;", 10);
    }

    private static void shyBids() {
        edges.by(6, "s SHY under BIDDER: as a BIDDER, 3 less (0 at least).");
        edges.due(0, bid('s', 0, "cl00;"));
        edges.due(1, bid('s', 1, "cl00;"));
        edges.due(54, bid('s', 9, "cg90;"));
        edges.due(0, bid('s', 2, "cw00;"));
        edges.due(0, bid('s', 3, "cw00;"));
        edges.due(1, bid('s', 4, "cw00;"));
        edges.due(0, bid('s', 9, "cl01;"));
        edges.due(0, bid('s', 9, "cl31;"));
        edges.due(1, bid('s', 9, "cl51;"));
        edges.due(0, bid('s', 9, "cw01;"));
        // 3 less of what he would bid, not of his purse.
        LiesBoughtBack x = Edges.told("cl50;", "bs0002;");
        edges.due(2, x.bids(0, 0));
    }

    private static void enemyBids() {
        edges.by(6, "e ENEMY under BIDDER: twice, if somebody else who is there TOLD it and is BELIEVED more than "
                + "he is, else as a BIDDER.");
        // A white one is told by each in turn: by the enemy, who is believed 1 less when it is sold; by the teller.
        String cards = "cl20;cl22;cl21;";
        String all = "bb0000;be3099;br0099;";
        LiesBoughtBack equal = Edges.told(cards, all);
        edges.due(2, equal.bids(1, 0));
        LiesBoughtBack more = Edges.told(cards + "cw01;", all);
        edges.due(2, more.sells(3));
        edges.due(49, more.bidder(1, 3));
        edges.due(4, more.bids(1, 0));
        edges.due(4, more.bids(1, 1));
        edges.due(8, more.bids(1, 2));
        LiesBoughtBack less = Edges.told(cards + "cw00;", all);
        edges.due(2, less.sells(3));
        edges.due(49, less.bidder(0, 3));
        edges.due(2, less.bids(1, 0));
        edges.due(2, less.bids(1, 1));
        // A teller who is not there is not believed at all; when he has come he is.
        LiesBoughtBack gone = Edges.told("cl25;cw01;", all);
        gone.sells(1);
        edges.due(2, gone.bids(1, 0));
        Edges.tell(gone, "bb0000;bb0000;");
        edges.due(2, gone.bids(1, 0));
        Edges.tell(gone, "bb0000;");
        edges.due(4, gone.bids(1, 0));
        Edges.tell(more, "cg90;cl30;cl00;");
        edges.due(48, more.bids(1, 4));
        edges.due(6, more.bids(1, 5));
        edges.due(2, more.bids(1, 6));
        more.pays(1, 3);
        edges.due(3, more.bids(1, 0));
    }

    private static void richBids() {
        edges.by(6, "r RICH under BIDDER: 5 more than a BIDDER.");
        edges.due(8, bid('r', 0, "cl00;"));
        edges.due(62, bid('r', 9, "cg90;"));
        edges.due(5, bid('r', 0, "cw00;"));
        edges.due(5, bid('r', 9, "cw01;"));
        edges.due(6, bid('r', 9, "cl01;"));
        edges.due(7, bid('r', 9, "cl21;"));
        edges.due(29, bid('r', 9, "cg91;"));
    }

    private static void husbandBids() {
        edges.by(6, "h HUSBAND under SHY: what it is worth, if he TOLD it, else 0.");
        edges.due(3, bid('h', 9, "cl00;"));
        edges.due(48, bid('h', 9, "cg90;"));
        edges.due(1, bid('h', 0, "ck00;"));
        edges.due(0, bid('h', 9, "cw00;"));
        edges.due(0, bid('h', 9, "cg91;"));
        edges.due(0, bid('h', 9, "cg95;"));
    }

    private static void foolBids() {
        edges.by(6, "f FOOL under RICH: twice a RICH one's.");
        edges.due(16, bid('f', 0, "cl00;"));
        edges.due(124, bid('f', 9, "cg90;"));
        edges.due(10, bid('f', 0, "cw00;"));
        edges.due(10, bid('f', 9, "cw01;"));
        edges.due(12, bid('f', 9, "cl01;"));
        edges.due(58, bid('f', 9, "cg91;"));
    }

    private static void asAboveThem() {
        edges.by(6, "Where it is not told as above them.");
        // An enemy and a rich one who told it take the figure as a bidder does, a fool as a rich one does.
        edges.due(17, bid('e', 9, "cl50;"));
        edges.due(22, bid('r', 9, "cl50;"));
        edges.due(44, bid('f', 9, "cl50;"));
        edges.due(14, bid('s', 9, "cl50;"));
        // A kind one under a lie does not grow old; a white one neither.
        LiesBoughtBack x = Edges.told("ck90;cw90;cg90;m60;m39;");
        edges.dueAll(x, "card", 5, 6, 0, 48);
        edges.dueAll(x, "card", 3, 99, 99, 99);
    }

    /** A great one, and fools who bid what they have. */
    private static LiesBoughtBack fools(int... purses) {
        StringBuilder hall = new StringBuilder();
        for (int i = 0; i < purses.length; i++) {
            hall.append("bf0").append(String.format("%03d", purses[i])).append(';');
        }
        return Edges.told(GREAT_ONE, hall.toString());
    }

    /** Who holds the great one when fools with these purses bid, and what he paid. */
    private static void duel(int who, int paid, int... purses) {
        LiesBoughtBack x = fools(purses);
        edges.due(who, x.gets(0, 0));
        edges.due(who < 0 ? -9 : paid, x.gets(0, 1));
        edges.due(who, x.sells(0));
        edges.due(who, x.card(0, 4));
        for (int i = 0; i < purses.length; i++) {
            edges.due(purses[i] - (i == who ? paid : 0), x.bidder(i, 2));
        }
    }

    private static void whoHolds() {
        edges.by(11, "of BIDDERS the one whose most is greatest (1 at least), of several the least, HOLDS it");
        duel(-9, 0, 0);
        duel(-9, 0, 0, 0, 0, 0, 0);
        duel(0, 1, 1);
        duel(1, 1, 0, 1);
        duel(4, 1, 0, 0, 0, 0, 1);
        duel(4, 10, 5, 6, 7, 9, 20);
        duel(0, 10, 20, 9, 7, 6, 5);
        duel(0, 7, 7, 7, 7);
        duel(1, 7, 6, 7, 7);
        duel(2, 7, 6, 5, 7, 6, 7);
        duel(0, 1, 1, 1, 1, 1, 1);
        // Above 58 they bid all the same.
        duel(0, 58, 58, 59, 999);
        duel(1, 58, 57, 999, 58);
        // The sixth of six can have it.
        LiesBoughtBack x = Edges.told(GREAT_ONE, "bs0000;bs0000;bs0000;bs0000;bs0000;bf0001;");
        edges.due(5, x.sells(0));
        edges.due(0, x.bidder(5, 2));
    }

    private static void whatIsPaid() {
        edges.by(11, "he pays what the next most is (of all others; 0 without) and 1, or his most, if that is "
                + "less: PURSE less by it.");
        duel(0, 1, 58);
        duel(0, 1, 999);
        duel(0, 1, 2, 0);
        duel(0, 2, 2, 1);
        duel(0, 2, 2, 2);
        duel(0, 2, 3, 1);
        duel(0, 57, 58, 56);
        duel(0, 58, 58, 57);
        duel(1, 57, 56, 58);
        // The next stands ahead of him, behind him, and between others.
        int[][] orders = {{4, 6, 9}, {4, 9, 6}, {6, 4, 9}, {6, 9, 4}, {9, 4, 6}, {9, 6, 4}};
        for (int[] purses : orders) {
            int who = purses[0] == 9 ? 0 : purses[1] == 9 ? 1 : 2;
            duel(who, 7, purses);
        }
        duel(3, 7, 1, 6, 6, 9, 5);
        // The most there can be: a fool buys back his greatest one.
        LiesBoughtBack x = Edges.told("cg90;", "bf9124;bf0058;");
        edges.due(59, x.gets(0, 1));
        x = Edges.told("cg90;", "bf0057;bf0999;");
        edges.due(1, x.sells(0));
        edges.due(999 - 58, x.bidder(1, 2));
    }

    private static void believedMore() {
        edges.by(11, "He TOLD it: BELIEVED is 2 more (99 at most)");
        LiesBoughtBack x = Edges.told("cl00;cw00;", "bb0999;br0001;");
        for (int n = 1; n <= 24; n++) {
            buysBack(x, 50 + 2 * n);
        }
        edges.due(98, x.bidder(0, 3));
        buysBack(x, 99);
        buysBack(x, 99);
        edges.due(50, x.bidder(1, 3));
        // 1 less by a white one that another has: so he comes to 97.
        x = Edges.told("cl00;cw00;", "bb0999;br0001;");
        edges.due(1, x.sells(1));
        for (int n = 1; n <= 24; n++) {
            buysBack(x, 49 + 2 * n);
        }
        edges.due(97, x.bidder(0, 3));
        buysBack(x, 99);
        buysBack(x, 99);
    }

    private static void buysBack(LiesBoughtBack x, int believed) {
        edges.due(0, x.sells(0));
        edges.due(believed, x.bidder(0, 3));
        x.returns(0);
    }

    private static void believedLess() {
        edges.by(11, "else the TELLER, if he is there, is BELIEVED less by what it is worth by 4, cut, and 1 (0 "
                + "at least).");
        String[] cards = {"cw91;", "ck01;", "cl01;", "cl11;", "cl41;", "cl51;", "cl81;", "cl91;", "cg01;", "cg91;"};
        int[] believed = {49, 49, 49, 48, 48, 47, 47, 46, 46, 37};
        for (int i = 0; i < cards.length; i++) {
            LiesBoughtBack x = Edges.told(cards[i], "bf0999;bs0000;bs0000;");
            edges.due(0, x.sells(0));
            edges.dueAll(x, "bidder", 3, 50, believed[i], 50);
        }
        // 13 less three times, then 11, 12 or 10 of the 11 that are left.
        String[] lasts = {"cg71;", "cg81;", "cg61;"};
        int[] left = {0, 0, 1};
        for (int i = 0; i < lasts.length; i++) {
            LiesBoughtBack x = Edges.told("cg91;cg91;cg91;" + lasts[i], "bf0999;bs0000;");
            for (int card = 0; card <= 3; card++) {
                x.sells(card);
            }
            edges.due(left[i], x.bidder(1, 3));
            x.returns(0);
            x.sells(0);
            edges.due(0, x.bidder(1, 3));
            edges.due(50, x.bidder(0, 3));
        }
        LiesBoughtBack x = Edges.told("cg92;", "bf0999;bs0000;");
        edges.due(0, x.sells(0));
        edges.due(100, x.count(5));
    }

    private static void nobodyBids() {
        edges.by(11, "Nobody bids: it stays IN THE PILE.");
        String[][] halls = {{"cl00;"}, {"cl00;", "bf0000;"}, {"ck05;", "bb9999;"},
            {"cw05;", "bb9999;bs9999;be9999;bh9999;"}};
        for (String[] hall : halls) {
            LiesBoughtBack x = Edges.told(hall);
            edges.due(-9, x.sells(0));
            edges.dueAlike(Edges.told(hall), x);
        }
    }

    private static void monthsOrder() {
        edges.by(13, "A MONTH: MONTH is 1 more; CARDS by THE ORDER, each IN THE PILE, are AUCTIONED one behind "
                + "the other");
        // With 1 in the purse the first by the order is bought, and no more.
        for (int first = 0; first < 3; first++) {
            LiesBoughtBack x = Edges.told("cl00;cl00;cl00;bb0001;");
            if (first > 0) {
                x.swaps(0, first);
            }
            edges.due(1, x.months(1));
            edges.due(1 << first, x.bidder(0, 4));
            edges.due(1, x.count(2));
        }
        // What is held is not auctioned; what he has paid is gone for the next.
        LiesBoughtBack x = Edges.told("cl05;cl05;bf0020;bf0012;g00;");
        edges.due(2, x.months(1));
        edges.dueAll(x, "card", 4, 0, 0);
        edges.dueAll(x, "bidder", 2, 20 - 12 + 5, 12 + 5);
        x = Edges.told("cl05;cl05;bf0012;bf0011;");
        edges.due(2, x.months(1));
        edges.dueAll(x, "card", 4, 0, 1);
        edges.dueAll(x, "bidder", 2, 0 + 5, 10 + 5);
        // Nobody there, no cards: a month all the same.
        x = new LiesBoughtBack();
        edges.due(0, x.months(1));
        edges.due(1, x.count(2));
    }

    private static void monthsEnd() {
        edges.by(13, "then AGE of each still IN THE PILE is 1 more (99 at most), PURSE of each BIDDER 5 more (999 "
                + "at most).");
        LiesBoughtBack x = Edges.told("cl00;cw05;cl00;bb0003;bs0993;bs0994;bs0995;bs0999;bs0000;g25;");
        edges.due(2, x.months(1));
        // Sold, left, held.
        edges.dueAll(x, "card", 3, 0, 1, 0);
        edges.dueAll(x, "bidder", 2, 7, 998, 999, 999, 999, 5);
        // He who has nothing ahead of the 5 more buys nothing.
        x = Edges.told("cl05;bf0000;");
        edges.due(0, x.months(1));
        edges.due(1, x.months(1));
        edges.due(9, x.bidder(0, 2));
        // An old one is auctioned by what it is worth ahead of its growing older.
        x = Edges.told("co91;m02;bf0100;bh0999;");
        edges.due(1, x.months(1));
        edges.due(100 - 13 + 5, x.bidder(0, 2));
        edges.due(2, x.card(0, 3));
        x = Edges.told("cl00;m60;m38;");
        int[] ages = {98, 99, 99};
        for (int age : ages) {
            edges.due(age, x.card(0, 3));
            x.months(1);
        }
    }
}
