/** For each promise calls with the answers that the document makes due, worked out by hand. */
public final class PromisesTest {
    private static final long FAR = 4000000000000000000L;

    private static int wrong;
    private static int asked;
    private static String promise = "";

    public static void main(String[] args) {
        newObject();
        letters();
        halls();
        hallFaults();
        cards();
        cardWorths();
        bidders();
        bidsOfKinds();
        purses();
        returned();
        given();
        swapped();
        soldNow();
        turned();
        monthsGone();
        thenAnswers();
        soldOutRuined();
        got();
        pursesFor();
        firstCard();
        gift();
        pooled();
        stayed();
        richestAndOwned();
        pairs();
        stutters();
        means();
        tellers();
        rows();
        lotsDrawn();
        images();
        counts();
        System.out.println(asked + " answers asked, " + wrong + " wrong");
        if (wrong > 0) {
            System.exit(1);
        }
    }

    private static void due(long want, long got) {
        asked++;
        if (want != got) {
            wrong++;
            System.out.println(promise + ": answered " + got + ", due is " + want
                    + " at " + new Throwable().getStackTrace()[1]);
        }
    }

    private static LiesBoughtBack told(String hall) {
        LiesBoughtBack x = new LiesBoughtBack();
        if (tell(x, hall) < 0) {
            wrong++;
            System.out.println(promise + ": a hall was not told: " + hall);
        }
        return x;
    }

    private static int tell(LiesBoughtBack x, String hall) {
        for (int i = 0; i < hall.length(); i++) {
            x.letter(hall.charAt(i));
        }
        return x.hall();
    }

    private static void newObject() {
        promise = "promise 1";
        LiesBoughtBack x = new LiesBoughtBack();
        for (int what = -1; what <= 18; what++) {
            due(what >= 0 && what <= 7 || what >= 11 && what <= 16 ? 0 : -9, x.count(what));
        }
    }

    private static void letters() {
        promise = "promise 2";
        LiesBoughtBack x = new LiesBoughtBack();
        due(1, x.letter(0));
        due(2, x.letter(255));
        due(-4, x.letter(-1));
        due(-6, x.letter(256));
        for (int i = 3; i <= 96; i++) {
            due(i, x.letter('c'));
        }
        due(-6, x.letter('c'));
        due(-4, x.letter(-1));
        due(96, x.count(7));
        due(-1000, x.hall());
        due(0, x.count(7));
        due(1, x.letter('c'));
    }

    private static void halls() {
        promise = "promise 3";
        LiesBoughtBack x = new LiesBoughtBack();
        due(3, tell(x, "cl50;bb5020;m01;"));
        due(0, x.card(0, 4));
        due(24, x.bidder(0, 2));
        due(52, x.bidder(0, 3));
        due(1, x.count(2));
        due(6, tell(x, "cg95;bf7999;x01;r0;r0;p0003;"));
        due(1, x.card(0, 6));
        due(-9, x.card(0, 4));
        due(3, x.bidder(0, 2));
        due(999, x.bidder(1, 2));
        due(2, tell(x, "g01;m02;"));
        due(1, x.card(0, 4));
        due(3, x.count(2));
        due(0, x.count(7));
        // What is told later may speak of what is told before, and only of that.
        due(-2000, tell(new LiesBoughtBack(), "g00;cl00;bb0000;"));
        due(3, tell(new LiesBoughtBack(), "cl00;bb0000;g00;"));
    }

    private static void hallFaults() {
        promise = "promise 3, faults";
        LiesBoughtBack x = told("cl50;bb5020;");
        String[] halls = {"", "c", "cl5", "cl50", ";", "cl50;;", "cb00;", "bl0000;", "bb0a00;", "b", "x0;", "m1;", "p01;",
            "cl06;", "p1000;", "x00;", "x02;", "r1;", "r9;", "g10;", "g01;", "m00;", "m61;", "m60;m99;", "cl00;x01;x02;",
            "x00;c", "m61;cl0x;", "C", "cl50;\u00e9"};
        int[] faults = {-1000, -1001, -1003, -1004, -1000, -1005, -1001, -1001, -1003, -1001, -1002, -1002, -1003,
            -2000, -2000, -2000, -2000, -2000, -2000, -2000, -2000, -2000, -2000, -2004, -2009,
            -1005, -1007, -1000, -1005};
        for (int i = 0; i < halls.length; i++) {
            due(faults[i], tell(x, halls[i]));
            due(0, x.count(7));
        }
        due(1, x.count(0));
        due(1, x.count(1));
        due(0, x.count(2));
        for (int what = 11; what <= 16; what++) {
            due(0, x.count(what));
        }
        due(-2035, tell(x, "cl00;cl00;cl00;cl00;cl00;cl00;cl00;cl00;"));
        due(7, tell(x, "cl00;cl00;cl00;cl00;cl00;cl00;cl00;"));
        due(8, x.count(0));
        due(-2000, tell(x, "cl00;"));
        due(-2035, tell(x, "bb0000;bb0000;bb0000;bb0000;bb0000;bb0000;"));
        due(5, tell(x, "bb0000;bb0000;bb0000;bb0000;bb0000;"));
        due(-2000, tell(x, "bb0000;"));
        due(16, tell(x, "m60;m60;m60;m60;m60;m60;m60;m60;m60;m60;m60;m60;m60;m60;m60;m60;"));
        due(960, x.count(2));
        due(-2008, tell(x, "m20;m19;m01;"));
        due(960, x.count(2));
        due(2, tell(x, "m20;m19;"));
        due(999, x.count(2));
        due(-2000, tell(x, "m01;"));
    }

    private static void cards() {
        promise = "promise 4";
        LiesBoughtBack x = told("cl10;ck21;cg32;co43;cw54;ct65;x05;bb0001;bs0001;g01;m02;");
        for (int i = 0; i < 6; i++) {
            due(i, x.card(i, 0));
            due(i + 1, x.card(i, 1));
            due(i, x.card(i, 2));
        }
        due(5, x.card(0, 6));
        due(0, x.card(5, 6));
        due(1, x.card(0, 4));
        due(0, x.card(0, 3));
        due(2, x.card(4, 3));
        due(-1, x.card(6, 0));
        due(-1, x.card(-1, 9));
        due(-2, x.card(0, 8));
        due(-2, x.card(0, -1));
        LiesBoughtBack y = told("cl50;bb5020;bs6012;be3030;br1008;bh9040;");
        due(4, y.card(0, 7));
        y.gives(0, 4);
        due(4, y.card(0, 7));
    }

    private static void cardWorths() {
        promise = "promise 4, worth";
        LiesBoughtBack x = told("cl90;ck81;cg92;co93;cw94;ct95;ct00;");
        int[] fresh = {12, 5, 48, 12, 0, 6, 1};
        int[] three = {12, 5, 48, 11, 0, 5, 1};
        int[] old = {12, 5, 48, 0, 0, 0, 0};
        for (int i = 0; i < 7; i++) {
            due(fresh[i], x.card(i, 5));
        }
        x.months(2);
        due(12, x.card(3, 5));
        x.months(1);
        for (int i = 0; i < 7; i++) {
            due(three[i], x.card(i, 5));
        }
        x.months(60);
        x.months(60);
        for (int i = 0; i < 7; i++) {
            due(old[i], x.card(i, 5));
            due(99, x.card(i, 3));
        }
    }

    private static void bidders() {
        promise = "promise 5";
        LiesBoughtBack x = told("bb1010;bs2020;be3030;br4040;bh5050;bf6999;cl00;cl01;g04;g14;");
        for (int i = 0; i < 6; i++) {
            due(i, x.bidder(i, 0));
            due(i + 1, x.bidder(i, 1));
            due(i == 5 ? 999 : 10 * (i + 1), x.bidder(i, 2));
            due(50, x.bidder(i, 3));
            due(i == 4 ? 3 : 0, x.bidder(i, 4));
        }
        due(-1, x.bidder(6, 0));
        due(-1, x.bidder(-1, 7));
        due(-2, x.bidder(0, 5));
        due(-2, x.bidder(0, -1));
    }

    private static void bidsOfKinds() {
        promise = "promise 6";
        LiesBoughtBack x = told("cl80;cl85;bb4100;");
        int[] own = {15, 12, 15, 20, 11, 40};
        int[] others = {5, 2, 5, 10, 0, 20};
        for (int kind = 0; kind < 6; kind++) {
            x.turn(0, kind, 4);
            due(own[kind], x.bids(0, 0));
            due(others[kind], x.bids(0, 1));
        }
        x.turn(0, 5, 4);
        x.pays(0, 7);
        due(7, x.bids(0, 0));
        due(-1, x.bids(1, 0));
        due(-1, x.bids(0, 2));
        due(-1, x.bids(-1, -1));
        // A shy one's 3 less comes off before the purse bounds it; it is 0 at least.
        LiesBoughtBack shy = told("cl95;cl05;bs9005;");
        due(3, shy.bids(0, 0));
        due(0, shy.bids(0, 1));
        // An enemy bids twice only against somebody there, believed more than he.
        LiesBoughtBack foe = told("cl50;cl51;cl52;bb0020;be3030;");
        due(4, foe.bids(1, 0));
        foe.sells(0);
        due(52, foe.bidder(0, 3));
        due(8, foe.bids(1, 0));
        due(11, foe.bids(1, 1));
        due(4, foe.bids(1, 2));
    }

    private static void purses() {
        promise = "promise 7";
        LiesBoughtBack x = told("bb0020;");
        due(20, x.pays(0, 999));
        due(999, x.pays(0, 0));
        due(0, x.bidder(0, 2));
        due(-1, x.pays(1, -1));
        due(-4, x.pays(0, -1));
        due(-6, x.pays(0, 1000));
        due(0, x.bidder(0, 2));
    }

    private static void returned() {
        promise = "promise 8";
        LiesBoughtBack x = told("cl00;bb0000;bb0000;g01;");
        due(1, x.returns(0));
        due(1, x.count(3));
        due(-3, x.returns(0));
        due(-1, x.returns(1));
        due(-1, x.returns(-1));
    }

    private static void given() {
        promise = "promise 9";
        LiesBoughtBack x = told("cl00;bb0007;bb0000;");
        due(-9, x.gives(0, 1));
        due(1, x.gives(0, 0));
        due(0, x.gives(0, 0));
        due(7, x.bidder(0, 2));
        due(50, x.bidder(0, 3));
        due(-1, x.gives(1, 0));
        due(-1, x.gives(0, 2));
        due(-1, x.gives(-1, -1));
        due(0, x.card(0, 4));
    }

    private static void swapped() {
        promise = "promise 10";
        LiesBoughtBack x = told("cl00;cl00;cl00;");
        due(2, x.swaps(0, 2));
        due(2, x.swaps(1, 0));
        due(0, x.card(2, 6));
        due(1, x.card(0, 6));
        due(-1, x.swaps(1, 1));
        due(-1, x.swaps(3, 0));
        due(-1, x.swaps(0, -1));
        due(2, x.card(1, 6));
        tell(x, "cl00;");
        due(3, x.card(3, 6));
    }

    private static void soldNow() {
        promise = "promise 11";
        // Of several the least, who pays his most when 1 more than the next is above it.
        LiesBoughtBack x = told("cg93;cl90;bb0024;bb0030;bb0030;bb0000;");
        due(0, x.sells(0));
        due(0, x.bidder(0, 2));
        due(37, x.bidder(3, 3));
        due(50, x.bidder(0, 3));
        due(0, x.count(2));
        due(-3, x.sells(0));
        due(-1, x.sells(2));
        due(-1, x.sells(-1));
        due(1, x.sells(1));
        due(24, x.bidder(1, 2));
        // Nobody there told it: nobody is believed less.
        LiesBoughtBack y = told("cg95;bb0100;");
        due(0, y.sells(0));
        due(99, y.bidder(0, 2));
        due(50, y.count(5));
        LiesBoughtBack z = told("cl00;bb0000;");
        due(-9, z.sells(0));
        due(0, z.card(0, 3));
        z.pays(0, 999);
        for (int i = 0; i < 30; i++) {
            due(0, z.sells(0));
            z.returns(0);
        }
        due(99, z.bidder(0, 3));
    }

    private static void turned() {
        promise = "promise 12";
        LiesBoughtBack x = told("bf7000;");
        due(57, x.turn(0, 0, 9));
        due(9, x.turn(0, 5, 0));
        due(-1, x.turn(1, 6, -1));
        due(-2, x.turn(0, 6, -1));
        due(-2, x.turn(0, -1, 10));
        due(-4, x.turn(0, 0, -1));
        due(-6, x.turn(0, 0, 10));
        due(5, x.bidder(0, 0));
        due(0, x.bidder(0, 1));
    }

    private static void monthsGone() {
        promise = "promise 13";
        // By the order card 1 comes first and takes the purse that card 0 would have needed.
        LiesBoughtBack x = told("cl05;cl90;x01;bh0012;br0011;");
        due(2, x.months(1));
        due(0, x.card(1, 4));
        due(1, x.card(0, 4));
        due(5, x.bidder(0, 2));
        due(15, x.bidder(1, 2));
        due(-4, x.months(0));
        due(-6, x.months(61));
        x.pays(1, 996);
        due(2, x.months(1));
        due(999, x.bidder(1, 2));
        LiesBoughtBack y = new LiesBoughtBack();
        for (int i = 0; i < 16; i++) {
            due(0, y.months(60));
        }
        due(-6, y.months(40));
        due(0, y.months(39));
        due(-6, y.months(1));
        due(999, y.count(2));
        due(0, y.pileThen(60));
    }

    private static void thenAnswers() {
        promise = "promises 14 to 16";
        LiesBoughtBack x = told("cl50;cw51;bh0000;bb0004;");
        due(-9, x.cardThen(0, 0));
        due(1, x.cardThen(0, 1));
        due(-9, x.cardThen(1, 1));
        due(-9, x.cardThen(1, 60));
        due(8, x.bidderThen(1, 1, 0));
        due(13, x.bidderThen(1, 2, 0));
        due(47, x.bidderThen(0, 1, 1));
        due(50, x.bidderThen(0, 0, 1));
        due(300, x.bidderThen(0, 60, 0));
        due(3, x.pileThen(0));
        due(2, x.pileThen(1));
        due(2, x.pileThen(60));
        due(0, x.count(2));
        due(3, x.count(3));
        due(-1, x.cardThen(2, -1));
        due(-4, x.cardThen(0, -1));
        due(-6, x.cardThen(0, 61));
        due(-1, x.bidderThen(2, -1, 2));
        due(-4, x.bidderThen(0, -1, 2));
        due(-6, x.bidderThen(0, 61, 2));
        due(-2, x.bidderThen(0, 60, 2));
        due(-2, x.bidderThen(0, 0, -1));
        due(-4, x.pileThen(-1));
        due(-6, x.pileThen(61));
    }

    private static void soldOutRuined() {
        promise = "promises 17, 19, 20";
        LiesBoughtBack x = told("cl50;cl51;bb0000;bh0000;g00;");
        due(0, x.sold(0));
        due(2, x.sold(1));
        due(2, x.out());
        due(-9, told("cw00;").sold(0));
        due(-9, told("cw00;").out());
        due(0, new LiesBoughtBack().out());
        due(-1, x.sold(2));
        due(-1, x.ruined(2));
        // 13 less for each GREAT of 48: 50, 37, 24, 11, 0.
        LiesBoughtBack y = told("cg91;cg91;cg91;cg91;bb0999;bb0000;");
        due(1, y.ruined(1));
        due(-9, y.ruined(0));
        y.months(1);
        due(0, y.ruined(1));
        due(0, y.bidder(1, 3));
        due(-9, told("cg91;cg91;cg91;bb0999;bb0000;").ruined(1));
        due(-1, y.ruined(-1));
        // Three are paid with 1 each in the first month; in the second both have 5, and the least gets the last.
        LiesBoughtBack z = told("cg91;cg91;cg91;cg91;bb0003;bb0000;");
        due(2, z.ruined(1));
        due(11, z.bidderThen(1, 1, 1));
        due(3, z.bidder(0, 2));
    }

    private static void got() {
        promise = "promise 18";
        LiesBoughtBack x = told("cl50;cw55;bb5020;br1008;");
        due(0, x.gets(0, 0));
        due(9, x.gets(0, 1));
        due(1, x.gets(1, 0));
        due(1, x.gets(1, 1));
        x.gives(0, 1);
        due(0, x.gets(0, 0));
        x.turn(1, 0, 0);
        due(-9, x.gets(1, 0));
        due(-9, x.gets(1, 1));
        due(-1, x.gets(2, 2));
        due(-2, x.gets(0, 2));
        due(-2, x.gets(0, -1));
        due(20, x.bidder(0, 2));
    }

    private static void pursesFor() {
        promise = "promise 21";
        LiesBoughtBack x = told("cl55;bb0020;bb0003;");
        due(3, x.purseFor(0, 0));
        due(-9, x.purseFor(1, 0));
        x.turn(1, 3, 0);
        due(5, x.purseFor(1, 0));
        due(3, x.bidder(1, 2));
        due(-1, x.purseFor(2, 0));
        due(-1, x.purseFor(0, 1));
        x.gives(0, 0);
        due(-3, x.purseFor(0, 0));
    }

    private static void firstCard() {
        promise = "promise 22";
        // 2, 0, 1: the other pays 3 for card 2 and is too poor for card 0; by 2, 1, 0 nothing would be won.
        LiesBoughtBack x = told("ck11;cl20;ck51;bb3002;bb3004;");
        due(2, x.first(0, 1));
        due(-9, x.first(0, 0));
        due(0, x.card(0, 6));
        due(-1, x.first(2, -1));
        due(-4, x.first(0, -1));
        due(-6, x.first(0, 21));
        due(-1, x.first(-1, 21));
        x.gives(2, 1);
        due(-9, x.first(0, 20));
    }

    private static void gift() {
        promise = "promise 23";
        // Who gets his GREAT one back is not believed 13 less; the LIE costs him 3.
        LiesBoughtBack x = told("cl50;cg90;cg95;bb0000;bf0999;");
        due(-9, x.give(0));
        due(1, x.give(1));
        due(1, x.give(20));
        due(7, x.count(3));
        x.gives(1, 0);
        due(0, x.give(1));
        x.gives(0, 0);
        due(-9, x.give(1));
        due(-4, x.give(-1));
        due(-6, x.give(21));
    }

    private static void pooled() {
        promise = "promise 24";
        // 6 bid by 2; 2 and 3 together are too little, 2 and 6 are enough. 2 has what he wants anyway.
        LiesBoughtBack x = told("cl90;bb9002;bb0003;bb0006;");
        due(-9, x.pool(0, 0));
        due(2, x.pool(0, 1));
        due(-9, x.pool(2, 1));
        due(2, x.bidder(0, 2));
        x.pays(2, 4);
        due(1, x.pool(0, 1));
        due(-1, x.pool(3, -1));
        due(-4, x.pool(0, -1));
        due(-6, x.pool(0, 21));
        due(-9, told("cl90;bb9000;").pool(0, 20));
    }

    private static void stayed() {
        promise = "promise 25";
        // Without 0: 1 pays 3 (2 bids 2); without 1: 0 pays 3; without 2: 0 pays 6 (1 bids 5).
        LiesBoughtBack x = told("cl95;br0006;bb0005;bb0002;");
        due(0, x.stay(0));
        due(3, x.stay(1));
        x.pays(2, 5);
        x.pays(0, 5);
        due(0, x.stay(0));
        due(5, x.stay(1));
        due(5, x.bidder(0, 2));
        due(-2, x.stay(2));
        due(-2, x.stay(-1));
        due(-9, told("cl00;").stay(0));
        due(-9, told("cl00;").stay(1));
        due(0, told("cl00;bb0100;").stay(1));
        LiesBoughtBack y = told("cl95;br0002;bb0005;bb0003;");
        due(1, y.stay(0));
        due(3, y.stay(1));
    }

    private static void richestAndOwned() {
        promise = "promise 26";
        LiesBoughtBack x = told("cl00;cg11;co91;cg15;bb0010;bb0020;bb0020;g01;g10;");
        due(1, x.richest(0));
        due(0, x.richest(1));
        due(1, x.richest(2));
        tell(x, "r1;p0000;p1000;");
        due(2, x.sells(1));
        due(1, x.card(1, 2));
        due(45, x.bidder(1, 3));
        due(0, x.richest(1));
        due(-2, x.richest(3));
        due(-2, x.richest(-1));
        LiesBoughtBack none = new LiesBoughtBack();
        due(-9, none.richest(0));
        due(-9, none.richest(1));
        due(-9, none.richest(2));
        due(0, told("bb0000;").richest(0));
        due(0, told("cw00;").richest(2));
        promise = "promise 27";
        LiesBoughtBack y = told("cl00;cl01;cl05;cl02;bb0010;bb0020;bb0003;bb0000;g00;g10;g22;");
        due(1, y.owned(0));
        due(6, y.owned(1));
        due(8, y.owned(2));
        due(33, y.owned(3));
        due(-2, y.owned(4));
        due(-2, y.owned(-1));
    }

    private static void pairs() {
        promise = "promise 28";
        LiesBoughtBack x = told("cl50;cl51;bb5020;bs6012;be3030;br1008;bh9040;");
        due(10, x.two(0, 1, 0));
        due(1, x.two(1, 0, 0));
        due(0, x.two(1, 4, 0));
        // The least wins of equal bids, so against him the other has nothing from bidding.
        due(10, told("cl55;bb0020;bb0020;").two(0, 1, 0));
        due(1, told("cl55;bb0020;bb0020;").two(1, 0, 0));
        due(10, told("cl55;bb0020;bb0000;").two(0, 1, 0));
        due(-1, x.two(0, 0, 0));
        due(-1, x.two(5, 0, 0));
        due(-1, x.two(0, -1, 0));
        due(-1, x.two(0, 1, 2));
        x.gives(0, 0);
        due(-3, x.two(0, 1, 0));
        due(20, x.bidder(0, 2));
    }

    private static void stutters() {
        promise = "promise 29";
        LiesBoughtBack x = told("cl50;bb5020;bb0000;");
        due(8, x.stutter(0, 0, 2, 3, 0));
        due(9, x.stutter(0, 0, 2, 3, 1));
        due(1279999999L, x.stutter(0, 0, 7, 20, 0));
        due(1280000000L, x.stutter(0, 0, 7, 20, 1));
        due(0, x.stutter(1, 0, 7, 20, 0));
        due(1, x.stutter(1, 0, 7, 20, 1));
        due(0, x.stutter(0, 0, 0, 2, 0));
        // Poor now, first of all in a month: only if the first month sells nothing he is rich enough for the second.
        LiesBoughtBack y = told("cl90;bb9000;bb0003;");
        due(1, y.stutter(0, 0, 1, 4, 1));
        due(0, y.stutter(0, 0, 1, 4, 0));
        due(0, y.stutter(0, 0, 2, 4, 0));
        due(3, y.stutter(0, 0, 3, 4, 0));
        due(64, y.stutter(0, 0, 3, 4, 1));
        due(15, y.stutter(1, 0, 3, 4, 0));
        due(16, y.stutter(1, 0, 3, 4, 1));
        x.gives(0, 1);
        due(1, x.stutter(1, 0, 5, 2, 0));
        due(1, x.stutter(1, 0, 0, 2, 1));
        due(FAR + 1, x.stutter(2, 0, -1, 1, 2));
        due(FAR + 1, x.stutter(0, 1, -1, 1, 2));
        due(FAR + 4, x.stutter(0, 0, -1, 21, 2));
        due(FAR + 4, x.stutter(0, 0, 8, 1, 2));
        due(FAR + 6, x.stutter(0, 0, 8, 2, 2));
        due(FAR + 6, x.stutter(0, 0, 7, 21, 2));
        due(FAR + 2, x.stutter(0, 0, 7, 20, 2));
        due(FAR + 2, x.stutter(0, 0, 7, 20, -1));
        due(2, x.count(11));
        due(2, x.count(12));
        due(2, x.count(14));
        due(2, x.count(16));
    }

    private static void means() {
        promise = "promise 30";
        LiesBoughtBack x = told("bb0010;bb0020;bb0012;bb0000;");
        due(21, x.mean(0));
        due(2, x.mean(1));
        LiesBoughtBack none = new LiesBoughtBack();
        due(0, none.mean(0));
        due(1, none.mean(1));
        due(1, told("bb0000;bb0000;").mean(1));
        due(FAR + 2, x.mean(2));
        due(FAR + 2, x.mean(-1));
        due(2, x.count(12));
    }

    private static void tellers() {
        promise = "promise 31";
        // Told by 0 he bids 17; told by 1, 1 bids 8; else both 4. As a WHITE one of 1's it gets no bid.
        LiesBoughtBack x = told("cl50;bb9100;bb0100;");
        due(63, x.whoTold(0, 0));
        x.row(0);
        due(61, x.whoTold(0, 0));
        due(63, x.whoTold(0, 1));
        x.clear();
        x.row(1);
        due(2, x.whoTold(0, 0));
        due(0, x.whoTold(0, 1));
        x.row(9);
        due(0, x.whoTold(0, 0));
        due(2, x.count(6));
        due(0, x.card(0, 2));
        LiesBoughtBack y = told("cl51;bb9100;bb0100;");
        y.row(1);
        due(47, y.whoTold(0, 1));
        y.clear();
        y.row(9);
        due(16, y.whoTold(0, 1));
        due(0, y.card(0, 0));
        due(-1, y.whoTold(1, 2));
        due(-2, y.whoTold(0, 2));
        due(-2, y.whoTold(0, -1));
    }

    private static void rows() {
        promise = "promises 32 to 34";
        LiesBoughtBack x = told("cl50;ck81;");
        due(-9, x.judge());
        due(1, x.row(8));
        due(-9, x.judge());
        due(0, x.count(6));
        x.row(8);
        x.row(5);
        due(-9, x.judge());
        x.row(8);
        x.row(6);
        x.row(0);
        due(1, x.judge());
        x.row(8);
        x.row(5);
        x.row(0);
        due(2, x.judge());
        due(0, x.count(6));
        due(-4, x.row(-1));
        due(-6, x.row(100));
        for (int i = 1; i <= 16; i++) {
            due(i, x.row(99));
        }
        due(-6, x.row(0));
        due(-4, x.row(-1));
        due(16, x.clear());
        due(0, x.clear());
        due(1, x.row(0));
    }

    private static void lotsDrawn() {
        promise = "promise 35";
        LiesBoughtBack x = told("cl50;bb5020;br0020;g01;");
        for (int z = -40; z < 40; z++) {
            long seed = z;
            int believed = 0;
            for (int n = 1; n <= 4; n++) {
                int[] draws = new int[2];
                for (int i = 0; i < 2; i++) {
                    seed = (int) (seed * 1664525 + 1013904223);
                    draws[i] = (int) ((seed & 0x7fffffffL) / 256 % 100);
                }
                int first = Math.min(13, draws[0]);
                int second = Math.min(9, draws[1]);
                // With nothing at all in both purses the second month sells it, 5 against 5.
                believed += first >= second ? 102 : 97;
                due(n, x.lots(n, z, 0));
                due(believed, x.lots(n, z, 1));
            }
            if (z % 20 == 0) {
                x = told("cl50;bb5020;br0020;g01;");
            }
        }
        due(20, x.bidder(0, 2));
        due(1, x.card(0, 4));
        due(-4, x.lots(0, 0, 2));
        due(-6, x.lots(21, 0, 2));
        due(-2, x.lots(20, 0, 2));
        due(-2, x.lots(1, 0, -1));
        due(20, x.lots(20, Integer.MIN_VALUE, 0));
    }

    private static void images() {
        promise = "promises 36, 37";
        LiesBoughtBack x = told("cl50;cg91;bb5020;m01;");
        due(-3, x.on());
        due(1, x.image());
        tell(x, "x01;r0;bf9000;co00;p0999;m03;");
        x.turn(0, 4, 4);
        x.row(7);
        x.letter('c');
        due(4, x.count(2));
        due(1, x.on());
        due(2, x.count(0));
        due(1, x.count(1));
        due(1, x.count(2));
        due(0, x.card(0, 4));
        due(0, x.card(0, 6));
        due(0, x.bidder(0, 0));
        due(5, x.bidder(0, 1));
        due(1, x.count(6));
        due(1, x.count(7));
        due(1, x.count(13));
        x.months(2);
        due(1, x.on());
        due(1, x.image());
        x.months(1);
        due(2, x.image());
        due(2, x.on());
    }

    private static void counts() {
        promise = "promise 38";
        LiesBoughtBack x = told("cl50;ck81;co92;bb5020;bb0000;g10;m01;p0000;r0;");
        due(3, x.count(0));
        due(2, x.count(1));
        due(1, x.count(2));
        due(1, x.count(3));
        due(8 + 5 + 12, x.count(4));
        x.row(1);
        x.row(2);
        x.letter(1);
        due(2, x.count(6));
        due(1, x.count(7));
        due(102, x.count(5));
        x.bids(9, 9);
        x.card(0, 9);
        x.card(0, 9);
        x.on();
        x.row(-1);
        x.row(100);
        x.row(100);
        x.row(100);
        due(1, x.count(11));
        due(2, x.count(12));
        due(1, x.count(13));
        due(1, x.count(14));
        due(0, x.count(15));
        due(3, x.count(16));
        due(-9, x.count(8));
        due(-9, x.count(10));
        due(-9, x.count(17));
        due(-9, x.count(-1));
        due(-9, x.count(Integer.MIN_VALUE));
        due(2, x.count(12));
    }
}
