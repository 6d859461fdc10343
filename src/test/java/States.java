/** Objects of the tests, from one that has nothing to one that has all that there can be. */
final class States {
    private States() {
    }

    static LiesBoughtBack empty() {
        return new LiesBoughtBack();
    }

    /** Two CARDS, two BIDDERS, all CARDS IN THE PILE, no image, refusals of each number behind it. */
    static LiesBoughtBack few() {
        LiesBoughtBack x = Edges.told("cl50;ck81;bb5020;bs6012;");
        x.bids(2, 2);
        x.stay(2);
        x.on();
        x.row(-1);
        x.row(100);
        return x;
    }

    /** All CARDS, 0 and 1 held, all BIDDERS; an image of another time; letters of a hall; a row that is so. */
    static LiesBoughtBack full() {
        LiesBoughtBack x = Edges.told("cl50;ck81;cg92;co73;cw64;ct95;cl20;cg05;",
                "m07;bb5020;bs6012;be3030;br1008;bh9040;bf7017;");
        x.image();
        Edges.tell(x, "x07;g01;g11;m01;r2;r3;r4;r5;r6;r7;");
        for (int card = 0; card < 8; card++) {
            x.row(x.card(card, 5));
        }
        Edges.letters(x, "x12;p5007;");
        return x;
    }

    static LiesBoughtBack late(int month) {
        LiesBoughtBack x = Edges.told("cw00;bh0000;");
        for (int left = month; left > 0; left -= 60) {
            x.months(Math.min(60, left));
        }
        return x;
    }

    /** As many letters, a hall of statements as far as they go. */
    static LiesBoughtBack withLetters(int count) {
        LiesBoughtBack x = Edges.told("cl00;bb0000;g00;");
        Edges.letters(x, "r0;".repeat(32).substring(0, count));
        return x;
    }

    static LiesBoughtBack withRow(int count) {
        LiesBoughtBack x = few();
        for (int i = 0; i < count; i++) {
            x.row(i == 0 ? 8 : 5);
        }
        return x;
    }
}
