/** Promises 21 to 28 and the Terms that they show, sentence by sentence: PAID, OWED, JUDGMENTS, GROUNDS, ORDER. */
final class OwedSentences {
    private static final int SELL = 0, REFUND = 1, GAP = -1;
    private static final int LEAST = Integer.MIN_VALUE, MOST = Integer.MAX_VALUE;

    private final Sentences d;

    OwedSentences(Sentences d) {
        this.d = d;
    }

    void tell() {
        pay();
        interest();
        owedTo();
        owedInterest();
        owedRefused();
        judgment();
        ground();
        standing();
        falling();
        order();
        orderOfLikeOnes();
        orderRefused();
    }

    /** COUNTERS whose program does nothing: behind a REFUND the ledger is above THE DRAWER with nobody's hand. */
    private static TrueLedger shortAndClear(int counters) {
        TrueLedger x = new TrueLedger();
        for (int c = 0; c < counters; c++) {
            x.counter(0);
            Due.log(x, c, REFUND);
            x.claim(c, -1, 0);
        }
        return x;
    }

    private void pay() {
        TrueLedger x = shortAndClear(2);
        d.of(21, "PAID: how many.");
        d.is("the first", x.pay(0, 7, 5), 1);
        d.is("another's counts too", x.pay(1, 7, 5), 2);
        d.of(21, "by a COUNTER's keeper, on a DAY (0 to 399), so many coins (1 to 1000).");
        d.is("the least", x.pay(0, 0, 1), 3);
        d.is("the most", x.pay(0, 399, 1000), 4);
        d.is("what came of it", x.owed(0, 0), 1);
        d.is("by the last DAY", x.owed(0, 399), 1006);
        d.of(21, "PAID, 40 at most:");
        for (int n = 5; n <= 40; n++) d.is("PAID " + n, x.pay(n % 2, 0, 1), n);
        d.is("count(4)", x.count(4), 40);
        d.of(21, "FULL.");
        String before = Sentences.snapshot(x);
        d.all("one more", -4, x.pay(0, 0, 1), x.pay(1, 399, 1000));
        d.of(21, "BAD;");
        d.all("COUNTER", -2, x.pay(-1, 0, 1), x.pay(2, 0, 1), x.pay(LEAST, 0, 1), x.pay(MOST, 0, 1));
        d.all("DAY", -2, x.pay(0, -1, 1), x.pay(0, 400, 1), x.pay(0, LEAST, 1), x.pay(0, MOST, 1));
        d.all("coins", -2, x.pay(0, 0, 0), x.pay(0, 0, -1), x.pay(0, 0, 1001), x.pay(0, 0, LEAST), x.pay(0, 0, MOST));
        d.same(before, x);
        TrueLedger y = shortAndClear(1);
        d.all("with room for more", -2, y.pay(1, 0, 1), y.pay(0, 400, 1), y.pay(0, 0, 0), y.pay(0, 0, 1001));
        d.is("none is PAID", y.count(4), 0);
    }

    private void interest() {
        TrueLedger x = new TrueLedger();
        d.of(22, "(told, 0 to 100; 1 at first)");
        d.is("at first", x.count(7), 1);
        d.of(22, "INTEREST: what it was.");
        d.is("the least", x.interest(0), 1);
        d.is("the most", x.interest(100), 0);
        d.is("the same again", x.interest(100), 100);
        d.of(22, "BAD.");
        d.all("beyond", -2, x.interest(-1), x.interest(101), x.interest(LEAST), x.interest(MOST));
        d.is("nothing has changed", x.count(7), 100);
    }

    private void owedTo() {
        TrueLedger x = shortAndClear(3);
        x.interest(0);
        d.of(23, "OWED on a DAY to a COUNTER: of PAID ones up to then,");
        d.is("none PAID", x.owed(0, 399), 0);
        x.pay(0, 100, 3);
        x.pay(0, 200, 5);
        x.pay(1, 0, 7);
        d.is("a DAY ahead", x.owed(0, 99), 0);
        d.is("on the DAY", x.owed(0, 100), 3);
        d.is("a DAY ahead of the next", x.owed(0, 199), 3);
        d.is("on that", x.owed(0, 200), 8);
        d.is("on the last DAY", x.owed(0, 399), 8);
        d.is("on the first DAY", x.owed(1, 0), 7);
        d.of(23, "OWED to a COUNTER (NONE: to all together) on a DAY.");
        d.is("the third, that PAID nothing", x.owed(2, 399), 0);
        d.is("all, at first", x.owed(-1, 0), 7);
        d.is("all, at last", x.owed(-1, 399), 15);
        d.is("all, where there are none", new TrueLedger().owed(-1, 399), 0);
        d.of(23, "if it is SHORT and CLEAR (bit 0 of its CAUSES):");
        x.claim(1, -2, 0);
        d.is("SHORT, BY A HAND", x.owed(1, 399), 0);
        d.is("all but that", x.owed(-1, 399), 8);
        x.claim(1, -1, 3);
        d.is("SHORT, FROM AFAR", x.owed(1, 399), 0);
        x.claim(1, -50, 50);
        d.is("SHORT without a CAUSE", x.owed(1, 399), 0);
        Due.log(x, 1, GAP, GAP);
        x.claim(1, -2, 0);
        d.is("one FILL of 64 is enough", x.owed(1, 399), 7);
        d.is("though others are BY A HAND", x.causes(1), 3);
        d.of(23, "0 otherwise.");
        Due.log(x, 1, SELL);
        x.claim(1, 1, 0);
        d.is("CLEAR, and the ledger is below", x.owed(1, 399), 0);
        Due.log(x, 1);
        x.claim(1, 0, 0);
        d.is("CLEAR, and they are even", x.owed(1, 399), 0);
    }

    private void owedInterest() {
        TrueLedger x = shortAndClear(2);
        x.pay(0, 0, 1000);
        x.pay(1, 0, 999);
        d.of(23, "each, and a thousandth of it times INTEREST");
        d.is("ten DAYS at 1", x.owed(0, 10), 1001);
        x.interest(100);
        d.is("ten DAYS at 100", x.owed(0, 10), 1100);
        d.of(23, "for each 10 DAYS that are over since,");
        d.is("nine", x.owed(0, 9), 1000);
        d.is("nineteen", x.owed(0, 19), 1100);
        d.is("twenty", x.owed(0, 20), 1200);
        d.is("389", x.owed(0, 389), 1000 + 3800);
        d.is("390", x.owed(0, 390), 1000 + 3900);
        d.is("the most", x.owed(0, 399), 1000 + 3900);
        x.interest(0);
        d.is("at 0", x.owed(0, 399), 1000);
        TrueLedger since = shortAndClear(1);
        since.interest(100);
        since.pay(0, 5, 1000);
        d.is("since DAY 5, on 14", since.owed(0, 14), 1000);
        d.is("since DAY 5, on 15", since.owed(0, 15), 1100);
        d.of(23, "cut each;");
        x.interest(1);
        d.is("0.999", x.owed(1, 10), 999);
        d.is("1.998", x.owed(1, 20), 999 + 1);
        d.is("38.961", x.owed(1, 399), 999 + 38);
        x.pay(1, 0, 999);
        d.is("1.998 twice", x.owed(1, 20), 2 * (999 + 1));
        d.is("of all together", x.owed(-1, 20), 2 * (999 + 1) + 1002);
        TrueLedger most = shortAndClear(1);
        most.interest(100);
        for (int n = 0; n < 40; n++) most.pay(0, 0, 1000);
        d.is("forty of the most", most.owed(0, 399), 40 * 4900);
    }

    private void owedRefused() {
        TrueLedger x = shortAndClear(1);
        d.of(23, "BAD.");
        d.all("COUNTER", -2, x.owed(-2, 0), x.owed(1, 0), x.owed(LEAST, 0), x.owed(MOST, 0));
        d.all("DAY", -2, x.owed(0, -1), x.owed(0, 400), x.owed(0, LEAST), x.owed(0, MOST));
        d.all("DAY, of all", -2, x.owed(-1, -1), x.owed(-1, 400), x.owed(-1, LEAST), x.owed(-1, MOST));
    }

    private void judgment() {
        TrueLedger x = new TrueLedger();
        d.of(24, "A JUDGMENT more: its number.");
        d.is("the first", x.judgment(0, 0), 0);
        d.is("how many", x.count(5), 1);
        d.of(24, "(bits 0 to 7 GROUNDS, 8 and more JUDGMENTS, perhaps later ones).");
        d.is("on itself and all else", x.judgment(0xFFFFFF, 0xFFFFFF), 1);
        d.is("on GROUND 7", x.judgment(1 << 7, 0), 2);
        d.is("on JUDGMENT 0", x.judgment(1 << 8, 0), 3);
        d.is("on a later one", x.judgment(1 << 13, 0), 4);
        d.is("STANDING", x.standing(), 0b1101);
        d.is("that one", x.judgment(0, 1), 5);
        d.is("both", x.standing(), 0b111101);
        x.ground(7, false);
        d.is("without GROUND 7", x.standing(), 0b111001);
        d.of(24, "BAD (bits 0 to 23);");
        String before = Sentences.snapshot(x);
        int[] beyond = {-1, 1 << 24, LEAST, MOST};
        for (int bits : beyond) d.all("beyond", -2, x.judgment(bits, 0), x.judgment(0, bits), x.judgment(bits, bits));
        d.same(before, x);
        d.of(24, "JUDGMENTS 0 .. 15 (16 at most)");
        for (int j = 6; j < 16; j++) d.is("judgment " + j, x.judgment(0, 0), j);
        before = Sentences.snapshot(x);
        d.of(24, "FULL.");
        d.all("one more", -4, x.judgment(0, 0), x.judgment(0xFFFFFF, 0xFFFFFF));
        d.all("BAD is ahead of it", -2, x.judgment(-1, 0), x.judgment(0, 1 << 24));
        d.same(before, x);
    }

    private void ground() {
        TrueLedger x = new TrueLedger();
        d.of(25, "GROUNDS 0 .. 7 stand or are fallen (all stand at first).");
        d.is("at first", x.count(6), 8);
        for (int g = 0; g < 8; g++) d.is("so already", x.ground(g, true), 0);
        d.of(25, "A GROUND falls (stands = false), stands again: 1;");
        for (int g = 0; g < 8; g++) {
            d.is("falls", x.ground(g, false), 1);
            d.is("how many stand", x.count(6), 7 - g);
        }
        d.is("stands again", x.ground(0, true), 1);
        d.is("stands again", x.ground(7, true), 1);
        d.is("how many stand", x.count(6), 2);
        d.of(25, "0: it is so already.");
        d.all("stands", 0, x.ground(0, true), x.ground(7, true));
        d.all("is fallen", 0, x.ground(1, false), x.ground(6, false));
        d.of(25, "BAD.");
        d.all("falls", -2, x.ground(-1, false), x.ground(8, false), x.ground(LEAST, false), x.ground(MOST, false));
        d.all("stands", -2, x.ground(-1, true), x.ground(8, true), x.ground(LEAST, true), x.ground(MOST, true));
        d.is("nothing has changed", x.count(6), 2);
    }

    private static TrueLedger court(int... allAndOne) {
        TrueLedger x = new TrueLedger();
        for (int i = 0; i + 1 < allAndOne.length; i += 2) x.judgment(allAndOne[i], allAndOne[i + 1]);
        return x;
    }

    private void standing() {
        d.of(26, "stand on ALL of some GROUNDS and JUDGMENTS and, where any are told, on ONE at least of some others");
        TrueLedger x = court(0b11, 0, 0, 0b1100, 0b1, 0b1100);
        d.is("all stand", x.standing(), 0b111);
        x.ground(2, false);
        d.is("one of two is enough", x.standing(), 0b111);
        x.ground(3, false);
        d.is("none of two is not", x.standing(), 0b001);
        x.ground(2, true);
        x.ground(1, false);
        d.is("one of two is not all", x.standing(), 0b110);
        x.ground(0, false);
        d.is("both are asked of", x.standing(), 0b010);
        d.of(26, "STANDING are those that can be led back to GROUNDS: as JUDGMENTS come to stand one after another.");
        d.is("on nothing at all", court(0, 0).standing(), 1);
        d.is("on itself", court(1 << 8, 0).standing(), 0);
        d.is("on itself, as one", court(0, 1 << 8).standing(), 0);
        d.is("on itself or a GROUND", court(0, 1 << 8 | 1).standing(), 1);
        d.is("on each other", court(1 << 9, 0, 1 << 8, 0).standing(), 0);
        d.is("on each other or a GROUND", court(1 << 9, 0, 0, 1 << 8 | 1).standing(), 0b11);
        d.is("on one that there is not", court(1 << 9, 0).standing(), 0);
        d.is("on one that there is not, or a GROUND", court(0, 1 << 23 | 1 << 7).standing(), 1);
        int[] back = new int[32], forth = new int[32];
        for (int j = 0; j < 16; j++) {
            back[2 * j] = j == 15 ? 1 : 1 << 8 + j + 1;
            forth[2 * j] = j == 0 ? 1 : 1 << 8 + j - 1;
        }
        d.is("sixteen, each on the next", court(back).standing(), 65535);
        TrueLedger row = court(forth);
        d.is("sixteen, each on the one before", row.standing(), 65535);
        row.ground(0, false);
        d.is("and the GROUND of all is fallen", row.standing(), 0);
        d.of(26, "STANDING, as bits.");
        d.is("none are told", new TrueLedger().standing(), 0);
        d.is("the second of two", court(1 << 8, 0, 0, 0).standing(), 2);
    }

    private void falling() {
        d.of(27, "FALLING of a GROUND: JUDGMENTS that stand, and would not, if it fell.");
        TrueLedger x = court(1, 0, 1 << 8, 0b110, 0, 1 << 9 | 1 << 3, 1 << 10 | 1 << 4, 0, 1 | 1 << 12, 0);
        d.is("with what stands on it; what does not stand does not fall", x.falling(0), 0b00011);
        d.is("one of two that are left", x.falling(1), 0);
        x.ground(2, false);
        d.is("the only one that is left", x.falling(1), 0b00010);
        x.ground(3, false);
        d.is("and all behind it", x.falling(1), 0b01110);
        d.is("one that is fallen", x.falling(2), 0);
        d.is("one that none stands on", x.falling(7), 0);
        d.is("nothing has changed", x.standing(), 0b01111);
        d.is("nor among GROUNDS", x.count(6), 6);
        d.of(27, "FALLING, as bits.");
        int[] all = new int[32];
        for (int j = 0; j < 16; j++) all[2 * j] = 1 << 7;
        d.is("all sixteen", court(all).falling(7), 65535);
        d.is("none are told", new TrueLedger().falling(0), 0);
        d.of(27, "BAD.");
        d.all("no such GROUND", -2, x.falling(-1), x.falling(8), x.falling(LEAST), x.falling(MOST));
    }

    /** COUNTERS with days and WEIGHTS, two numbers each. */
    private static TrueLedger waiting(int... daysAndWeight) {
        TrueLedger x = new TrueLedger();
        for (int c = 0; 2 * c + 1 < daysAndWeight.length; c++) {
            x.counter(0);
            x.tell(c, 1, daysAndWeight[2 * c]);
            x.tell(c, 2, daysAndWeight[2 * c + 1]);
        }
        return x;
    }

    private void ordered(String what, TrueLedger x, int counters, int cost, int... order) {
        d.is(what + ", cost", x.order(counters, -1), cost);
        for (int i = 0; i < order.length; i++) d.is(what + ", " + i, x.order(counters, i), order[i]);
        d.is(what + ", beyond", x.order(counters, order.length), -2);
    }

    private void order() {
        d.of(28, "ORDER of some COUNTERS (bits, 8 at most):");
        TrueLedger x = waiting(50, 50, 50, 50, 50, 50, 50, 50, 50, 50, 50, 50, 50, 50, 50, 50, 50, 50, 1, 1, 2, 1, 1, 2);
        ordered("none", x, 0, 0);
        ordered("the last alone", x, 1 << 11, 2, 11);
        ordered("eight", x, 0b11111111, 50 * 50 * 36, 0, 1, 2, 3, 4, 5, 6, 7);
        ordered("the last eight", x, 0b111111110000, 2 + 50 * (51 + 101 + 151 + 201 + 251) + 252 + 254, 11, 4, 5, 6, 7, 8, 9, 10);
        d.of(28, "ORDER of COUNTERS: its cost (i = NONE), the i-th of them.");
        ordered("three", waiting(10, 1, 1, 1, 5, 9), 0b111, 5 * 9 + 6 + 16, 2, 1, 0);
        d.of(28, "one after the other, the least cost together,");
        ordered("the shorter first", waiting(2, 1, 1, 1), 0b11, 1 + 3, 1, 0);
        ordered("the heavier first", waiting(1, 1, 1, 2), 0b11, 2 + 2, 1, 0);
        ordered("3 days at 2 ahead of 2 at 1", waiting(2, 1, 3, 2), 0b11, 6 + 5, 1, 0);
        ordered("none of WEIGHT 0 ahead of another", waiting(1, 0, 50, 1), 0b11, 50, 1, 0);
        ordered("50 at 49 ahead of 50 at 48", waiting(50, 48, 50, 49), 0b11, 50 * 49 + 100 * 48, 1, 0);
    }

    private void orderOfLikeOnes() {
        d.of(28, "of like ones the least (the first compared first).");
        ordered("as long by WEIGHT", waiting(4, 2, 2, 1, 6, 3), 0b111, 4 * 2 + 6 + 12 * 3, 0, 1, 2);
        ordered("all of WEIGHT 0", waiting(9, 0, 1, 0, 5, 0), 0b111, 0, 0, 1, 2);
        ordered("some of WEIGHT 0", waiting(9, 0, 1, 1, 5, 0, 1, 1), 0b1111, 1 + 2, 1, 3, 0, 2);
        ordered("of those asked of alone", waiting(9, 0, 1, 1, 5, 0, 1, 1), 0b1001, 1, 3, 0);
    }

    private void orderRefused() {
        TrueLedger x = waiting(1, 1, 1, 1, 1, 1, 1, 1, 1, 1, 1, 1, 1, 1, 1, 1, 1, 1);
        d.of(28, "BAD: more than 8, ones that there are not, i beyond.");
        d.all("nine", -2, x.order(0b111111111, -1), x.order(0b111111111, 0), x.order(0b111111111, 8));
        d.all("not there", -2, x.order(1 << 9, -1), x.order(1 << 9 | 1, 0), x.order(1 << 12, -1), x.order(1 << 30, -1));
        d.all("below 0", -2, x.order(-1, -1), x.order(LEAST, -1), x.order(LEAST | 1, 0));
        d.all("i", -2, x.order(1, 1), x.order(1, -2), x.order(255, 8), x.order(1, LEAST), x.order(1, MOST), x.order(0, 0));
        d.all("with none at all", -2, new TrueLedger().order(1, -1), new TrueLedger().order(0, 0));
        d.is("none of none", new TrueLedger().order(0, -1), 0);
    }
}
