/** What a hall holds at most, how it is told letter by letter, and its faults. */
final class HallEdges {
    private static final String DIGITS = "0123456789";
    private static final String FIRSTS = "cbpxrgm";
    /** A statement of each form that comes to the small hall; behind it what may stand at its places. */
    private static final String[][] FORMS = {
        {"cl00;", "c", "lkgowt", DIGITS, DIGITS, ";"},
        {"bb0000;", "b", "bserhf", DIGITS, DIGITS, DIGITS, DIGITS, ";"},
        {"p0000;", "p", DIGITS, DIGITS, DIGITS, DIGITS, ";"},
        {"x01;", "x", DIGITS, DIGITS, ";"},
        {"r0;", "r", DIGITS, ";"},
        {"g00;", "g", DIGITS, DIGITS, ";"},
        {"m01;", "m", DIGITS, DIGITS, ";"},
    };

    private static Edges edges;

    static void ask(Edges by) {
        edges = by;
        cards();
        bidders();
        orderAndMonth();
        letters();
        forms();
        noStatement();
        firstKind();
        secondKind();
        numbersOutOfRange();
        nobodySoFar();
        noTimeOrRoom();
        allOrNothing();
    }

    /** Two cards and a bidder. */
    private static LiesBoughtBack small() {
        return Edges.told("cl00;cl00;bb0000;");
    }

    private static void cards() {
        edges.by(3, "CARDS 0 .. as they come (8 at most)");
        LiesBoughtBack x = Edges.told("ck10;cg20;");
        edges.due(1, x.card(0, 0));
        edges.due(2, x.card(1, 0));
        edges.due(-1, x.card(2, 0));
        x = Edges.told("cl00;".repeat(7));
        edges.due(-2005, Edges.tell(x, "ct90;cl00;"));
        edges.due(7, x.count(0));
        edges.due(1, Edges.tell(x, "ct90;"));
        edges.due(8, x.count(0));
        edges.due(5, x.card(7, 0));
        edges.due(-2000, Edges.tell(x, "cl00;"));
        edges.due(8, x.count(0));
        edges.by(3, "FIGURE (0 .. 9), the TELLER (one of BIDDERS, 0 .. 5, who may not be there yet)");
        for (int digit = 0; digit <= 9; digit++) {
            x = new LiesBoughtBack();
            edges.due(1, Edges.tell(x, "cl" + digit + "0;"));
            edges.due(digit, x.card(0, 1));
            edges.due(digit <= 5 ? 1 : -2000, Edges.tell(x, "cl0" + digit + ";"));
            edges.due(digit <= 5 ? digit : -1, x.card(1, 2));
        }
        // With five bidders the teller 5 is not there; with a sixth he is, and is believed 13 less.
        x = Edges.told("cg95;bb0100;bb0000;bb0000;bb0000;bb0000;");
        x.sells(0);
        edges.due(250, x.count(5));
        Edges.tell(x, "bb0000;r0;");
        x.sells(0);
        edges.due(37, x.bidder(5, 3));
        edges.by(4, "AGE (0 .. 99; 0 at first), IN THE PILE (at first) or HELD by one of BIDDERS.");
        x = Edges.told("cl00;");
        edges.due(0, x.card(0, 3));
        edges.due(-9, x.card(0, 4));
        edges.due(1, x.count(3));
        int[] months = {60, 38, 1, 1, 60};
        int[] ages = {60, 98, 99, 99, 99};
        for (int i = 0; i < months.length; i++) {
            x.months(months[i]);
            edges.due(ages[i], x.card(0, 3));
        }
        Edges.tell(x, "bb0000;bb0000;bb0000;bb0000;bb0000;bb0000;g05;");
        edges.due(5, x.card(0, 4));
        // What comes where there was another, ahead of the image, is as new.
        x = new LiesBoughtBack();
        x.image();
        Edges.tell(x, "cl00;cl00;x01;m60;bb0009;g00;");
        x.on();
        Edges.tell(x, "cl01;");
        edges.due(0, x.card(0, 3));
        edges.due(-9, x.card(0, 4));
        edges.due(0, x.card(0, 6));
    }

    private static void bidders() {
        edges.by(3, "BIDDERS 0 .. as they come (6 at most): KIND, FIGURE, PURSE (0 .. 999), BELIEVED (0 .. 99; 50 "
                + "at first).");
        LiesBoughtBack x = Edges.told("bb0000;bf9999;be0001;bb0998;");
        edges.due(0, x.bidder(0, 0));
        edges.due(5, x.bidder(1, 0));
        edges.due(-1, x.bidder(4, 0));
        edges.dueAll(x, "bidder", 1, 0, 9, 0, 0);
        edges.dueAll(x, "bidder", 2, 0, 999, 1, 998);
        edges.dueAll(x, "bidder", 3, 50, 50, 50, 50);
        Edges.tell(x, "bb0000;");
        edges.due(-2007, Edges.tell(x, "bh9000;bb0000;"));
        edges.due(5, x.count(1));
        edges.due(1, Edges.tell(x, "bh9000;"));
        edges.due(6, x.count(1));
        edges.due(4, x.bidder(5, 0));
        edges.due(-2000, Edges.tell(x, "bb0000;"));
        edges.due(6, x.count(1));
        for (int figure = 0; figure <= 9; figure++) {
            edges.due(figure, Edges.told("bb" + figure + "000;").bidder(0, 1));
        }
    }

    private static void orderAndMonth() {
        edges.by(4, "THE ORDER: CARDS one behind the other (who comes last is last).");
        LiesBoughtBack x = Edges.told("cl00;", "cl00;", "cl00;x02;x10;");
        edges.dueAll(x, "card", 6, 1, 2, 0);
        Edges.tell(x, "cl00;cl00;");
        edges.dueAll(x, "card", 6, 1, 2, 0, 3, 4);
        Edges.tell(x, "cl00;cl00;cl00;");
        edges.due(7, x.card(7, 6));
        edges.by(13, "MONTH (0 .. 999; 0 at first).");
        x = new LiesBoughtBack();
        edges.due(0, x.count(2));
        x.months(1);
        edges.due(1, x.count(2));
        x = States.late(998);
        edges.due(0, x.months(1));
        edges.due(999, x.count(2));
        edges.due(-6, x.months(1));
        edges.due(999, x.count(2));
    }

    private static void letters() {
        edges.by(2, "A letter (0 .. 255) comes: how many there are.");
        for (int c = 0; c <= 255; c++) {
            LiesBoughtBack x = new LiesBoughtBack();
            edges.due(1, x.letter(c));
            edges.due(2, x.letter(255 - c));
            edges.due(2, x.count(7));
        }
        edges.by(2, "A HALL is told in letters, one by one (96 at most)");
        LiesBoughtBack x = Edges.told("cl00;bb0000;g00;");
        String most = "p0999;r0;" + "p0000;".repeat(14) + "r0;";
        for (int i = 0; i < 96; i++) {
            edges.due(i + 1, x.letter(most.charAt(i)));
        }
        edges.due(-6, x.letter(';'));
        edges.due(17, x.hall());
        edges.due(0, x.bidder(0, 2));
        edges.due(-9, x.card(0, 4));
        edges.due(1, x.letter(';'));
        edges.by(3, "The letters become a HALL, and are no more (with a FAULT neither): how many STATEMENTS; the "
                + "FAULT (nothing is counted).");
        x = small();
        edges.due(0, x.count(7));
        edges.due(-1000, x.hall());
        edges.due(-1001, Edges.tell(x, "r!"));
        edges.due(0, x.count(7));
        edges.due(-2003, Edges.tell(x, "r0;r2;"));
        edges.due(0, x.count(7));
        edges.due(1, Edges.tell(x, "r0;"));
        edges.due(-1000, x.hall());
        edges.due(2, Edges.tell(x, "r0;r1;"));
        for (int what = 11; what <= 16; what++) {
            edges.due(0, x.count(what));
        }
    }

    /** Every letter at every place of every form of a statement. */
    private static void forms() {
        edges.by(3, "STATEMENTS, each with \";\" behind: \"c\" a letter of a KIND of CARDS, FIGURE, a TELLER (a "
                + "digit each): a CARD more; \"b\" a letter of a KIND of BIDDERS, FIGURE (a digit), PURSE (3 "
                + "digits): a BIDDER more; \"p\" a BIDDER (a digit), PURSE (3 digits); \"x\" two CARDS (a digit "
                + "each): they change places in THE ORDER; \"r\" a CARD (a digit): it is IN THE PILE again; \"g\" "
                + "a CARD, a BIDDER (a digit each): he HOLDS it; \"m\" MONTHS (2 digits, 1 .. 60): they go by.");
        for (char c = 0; c <= 255; c++) {
            edges.due(FIRSTS.indexOf(c) >= 0 ? -1001 : -1000, Edges.tell(small(), String.valueOf(c)));
        }
        for (String[] form : FORMS) {
            String statement = form[0];
            edges.due(1, Edges.tell(small(), statement));
            for (int end = 1; end < statement.length(); end++) {
                edges.due(-1000 - end, Edges.tell(small(), statement.substring(0, end)));
            }
            for (int place = 1; place < statement.length(); place++) {
                everyLetterAt(place, statement, form[1 + place]);
            }
            for (char c = 0; c <= 255; c++) {
                int end = statement.length();
                edges.due(FIRSTS.indexOf(c) >= 0 ? -1001 - end : -1000 - end, Edges.tell(small(), statement + c));
            }
        }
        edges.due(7, Edges.tell(small(), "cl00;bb0000;p0000;x01;r0;g00;m01;"));
    }

    private static void everyLetterAt(int place, String statement, String fitting) {
        for (char c = 0; c <= 255; c++) {
            int answer = Edges.tell(small(), statement.substring(0, place) + c + statement.substring(place + 1));
            if (fitting.indexOf(c) >= 0) {
                // What fits may still be no such card or bidder.
                edges.due(1, answer == 1 || answer == -2000 ? 1 : 0);
            } else {
                edges.due(-1000 - place, answer);
            }
        }
    }

    private static void noStatement() {
        edges.by(3, "At least one STATEMENT.");
        LiesBoughtBack x = small();
        edges.due(-1000, x.hall());
        edges.due(-1000, Edges.tell(x, ";"));
        edges.due(1, Edges.tell(x, "r0;"));
    }

    private static void firstKind() {
        edges.by(3, "kind 1 the place of the first letter with which no HALL can go on (the end, if something "
                + "lacks): -1000 less the place");
        String most = "r0;".repeat(32);
        for (int place = 0; place <= 95; place++) {
            edges.due(-1000 - place, Edges.tell(small(), most.substring(0, place) + "!" + most.substring(place + 1)));
            // Of two the first is told.
            edges.due(-1000 - place, Edges.tell(small(), most.substring(0, place) + "!".repeat(96 - place)));
        }
        edges.due(-1095, Edges.tell(small(), most.substring(0, 95)));
        edges.due(-1096, Edges.tell(small(), "p0000;".repeat(15) + "bb0000"));
        edges.due(-1096, Edges.tell(small(), "r0;".repeat(31) + "cl0"));
        edges.due(-1096, Edges.tell(small(), "p0000;".repeat(15) + "cl00;m"));
    }

    private static void secondKind() {
        edges.by(3, "else kind 2 the place of the first letter of the first STATEMENT that, behind all ahead of "
                + "it in the text, is not as it must be");
        for (int good = 0; good <= 31; good++) {
            edges.due(-2000 - 3 * good, Edges.tell(small(), "r0;".repeat(good) + "r9;"));
        }
        edges.due(-2009, Edges.tell(small(), "p0001;r0;m61;r9;m00;"));
        // A letter with which it cannot go on is told, wherever it stands.
        edges.due(-1003, Edges.tell(small(), "r9;!"));
        edges.due(-1006, Edges.tell(small(), "m61;r0"));
        edges.due(-1000, Edges.tell(small(), "!r9;"));
        edges.due(-2000, Edges.tell(small(), "r2;cl00;"));
        edges.due(2, Edges.tell(small(), "cl00;r2;"));
        edges.due(-2000, Edges.tell(small(), "p1000;bb0000;"));
        edges.due(2, Edges.tell(small(), "bb0000;p1000;"));
    }

    private static void dueForEach(String[] statements, int want) {
        for (String statement : statements) {
            edges.due(want, Edges.tell(small(), statement));
        }
    }

    private static void numbersOutOfRange() {
        edges.by(3, "(a number out of range, no such CARD, BIDDER so far, one CARD twice, MONTH above 999, no "
                + "room for more)");
        dueForEach(new String[] {"cl00;", "cl95;", "bb0000;", "bb9999;", "p0999;", "m01;", "m60;"}, 1);
        dueForEach(new String[] {"cl06;", "cl07;", "cl08;", "cl09;", "m00;", "m61;", "m70;", "m99;"}, -2000);
    }

    private static void nobodySoFar() {
        edges.by(3, "no such CARD, BIDDER so far, one CARD twice");
        dueForEach(new String[] {"r0;", "r1;", "x01;", "x10;", "g00;", "g10;", "p0000;"}, 1);
        dueForEach(new String[] {"r2;", "r9;", "x02;", "x20;", "x09;", "x90;", "x23;", "x99;"}, -2000);
        dueForEach(new String[] {"g20;", "g90;", "g01;", "g09;", "g21;", "p1000;", "p9999;", "x00;", "x11;"}, -2000);
        for (String[] form : FORMS) {
            boolean new1 = "cbm".contains(form[1]);
            edges.due(new1 ? 1 : -2000, Edges.tell(new LiesBoughtBack(), form[0]));
        }
        LiesBoughtBack x = Edges.told("cl00;".repeat(8), "bb0000;".repeat(6));
        edges.due(4, Edges.tell(x, "r7;x07;g75;p5000;"));
        edges.due(-2000, Edges.tell(x, "r8;"));
        edges.due(-2000, Edges.tell(x, "x78;"));
        edges.due(-2000, Edges.tell(x, "g76;"));
        edges.due(-2000, Edges.tell(x, "g85;"));
        edges.due(-2000, Edges.tell(x, "p6000;"));
        // A card in the pile may be laid there again, a held one given to another, or to him who holds it.
        edges.due(6, Edges.tell(small(), "r0;r0;g00;bb0000;g01;g01;"));
    }

    private static void noTimeOrRoom() {
        edges.by(3, "MONTH above 999, no room for more");
        LiesBoughtBack x = States.late(939);
        edges.due(-2004, Edges.tell(x, "m60;m01;"));
        edges.due(-2008, Edges.tell(x, "m59;m01;m01;"));
        edges.due(939, x.count(2));
        edges.due(1, Edges.tell(x, "m60;"));
        edges.due(999, x.count(2));
        edges.due(-2000, Edges.tell(x, "m01;"));
        edges.due(-2000, Edges.tell(x, "m60;"));
        edges.due(-2000, Edges.tell(States.late(998), "m02;"));
        edges.due(1, Edges.tell(States.late(998), "m01;"));
        edges.due(-2040, Edges.tell(new LiesBoughtBack(), "cl00;".repeat(9)));
        edges.due(8, Edges.tell(new LiesBoughtBack(), "cl00;".repeat(8)));
        edges.due(-2042, Edges.tell(new LiesBoughtBack(), "bb0000;".repeat(7)));
        edges.due(6, Edges.tell(new LiesBoughtBack(), "bb0000;".repeat(6)));
    }

    private static void allOrNothing() {
        edges.by(3, "Without FAULT all of it comes, with one nothing.");
        String all = "g00;cg93;bf7123;p0045;x02;r1;m01;g10;";
        for (String fault : new String[] {"r3;", "m00;", "x11;", "cl09;", "!", "r"}) {
            LiesBoughtBack x = small();
            edges.due(1, Edges.tell(x, all + fault) < 0 ? 1 : 0);
            edges.dueAlike(small(), x);
        }
        LiesBoughtBack x = small();
        edges.due(8, Edges.tell(x, all));
        edges.due(3, x.count(0));
        edges.due(2, x.count(1));
        edges.due(1, x.count(2));
        edges.dueAll(x, "card", 4, 0, 0, 1);
        edges.dueAll(x, "card", 6, 2, 1, 0);
        // The fool gets the new card first, for 25, and then card 1 for 4.
        edges.dueAll(x, "bidder", 2, 50, 99);
        edges.dueAll(x, "bidder", 3, 49, 50);
        edges.due(1, Edges.tell(x, "r0;"));
        edges.due(-9, x.card(0, 4));
    }
}
