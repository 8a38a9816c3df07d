/** Promises 21 to 28: what was PAID and is OWED, JUDGMENTS and GROUNDS, ORDER. */
public final class OwedAndJudgmentsTest {
    private static final int SELL = 0, GAP = -1;
    private static final int LEAST = Integer.MIN_VALUE, MOST = Integer.MAX_VALUE;
    private static final Due DUE = new Due("OwedAndJudgmentsTest");

    public static void main(String[] args) {
        promise21and22();
        promise23();
        owedForForty();
        promise24to26();
        promise27();
        promise28();
        DUE.end();
    }

    private static void promise21and22() {
        TrueLedger x = new TrueLedger();
        DUE.is(21, "no counter", x.pay(0, 0, 1), -2);
        x.counter(0);
        int[][] bad = {{-1, 0, 1}, {1, 0, 1}, {0, -1, 1}, {0, 400, 1}, {0, 0, 0}, {0, 0, -1}, {0, 0, 1001}, {0, LEAST, MOST}};
        for (int[] a : bad) DUE.is(21, "bad", x.pay(a[0], a[1], a[2]), -2);
        for (int n = 1; n <= 40; n++) {
            DUE.is(21, "pay", x.pay(0, n % 2 * 399, n % 3 == 0 ? 1000 : 1), n);
        }
        DUE.is(21, "full", x.pay(0, 0, 1), -4);
        DUE.is(21, "bad before full", x.pay(0, 0, 0), -2);
        DUE.is(21, "how many", x.count(4), 40);
        DUE.is(22, "at first", x.interest(0), 1);
        DUE.is(22, "then", x.interest(100), 0);
        DUE.is(22, "bad", x.interest(101), -2);
        DUE.is(22, "bad", x.interest(-1), -2);
        DUE.is(22, "it stays", x.count(7), 100);
    }

    /** A COUNTER whose program does nothing: behind a REFUND its ledger is above THE DRAWER with nobody's hand. */
    private static TrueLedger shortAndClear() {
        TrueLedger x = new TrueLedger();
        x.counter(0);
        Due.log(x, 0, 1);
        x.claim(0, -1, 0);
        return x;
    }

    private static void promise23() {
        TrueLedger x = shortAndClear();
        DUE.is(23, "nothing paid", x.owed(0, 399), 0);
        x.pay(0, 100, 999);
        DUE.is(23, "ahead of it", x.owed(0, 99), 0);
        DUE.is(23, "on the day", x.owed(0, 100), 999);
        x.interest(20);
        DUE.is(23, "nine days", x.owed(0, 109), 999);
        DUE.is(23, "ten days: 19.98, cut", x.owed(0, 110), 999 + 19);
        DUE.is(23, "fifty days: 99.9, cut once", x.owed(0, 150), 999 + 99);
        DUE.is(23, "299 days", x.owed(0, 399), 999 + 579);
        x.pay(0, 100, 999);
        DUE.is(23, "each is cut", x.owed(0, 150), 2 * (999 + 99));
        x.pay(0, 150, 1);
        DUE.is(23, "another on the day", x.owed(0, 150), 2 * (999 + 99) + 1);
        x.interest(0);
        DUE.is(23, "no interest", x.owed(0, 399), 1999);
        x.interest(100);
        DUE.is(23, "the most interest", x.owed(0, 399), 2 * (999 + 2897) + 1 + 2);
        x.counter(0);
        Due.log(x, 1, 1, 1);
        x.claim(1, -2, 0);
        x.pay(1, 0, 1000);
        x.interest(1);
        DUE.is(23, "the other", x.owed(1, 399), 1039);
        DUE.is(23, "the first", x.owed(0, 399), 2 * (999 + 28) + 1);
        DUE.is(23, "all together", x.owed(-1, 399), 1039 + 2 * (999 + 28) + 1);
        notOwed(x);
        int[][] bad = {{-2, 0}, {2, 0}, {0, -1}, {0, 400}, {-1, -1}, {-1, 400}, {LEAST, MOST}};
        for (int[] a : bad) DUE.is(23, "bad", x.owed(a[0], a[1]), -2);
    }

    private static void owedForForty() {
        TrueLedger x = shortAndClear();
        for (int n = 0; n < 40; n++) x.pay(0, 399, n + 1);
        DUE.is(23, "forty", x.owed(0, 399), 820);
        DUE.is(23, "forty, of all", x.owed(-1, 399), 820);
        DUE.is(23, "a day ahead", x.owed(0, 398), 0);
    }

    private static void notOwed(TrueLedger x) {
        x.claim(1, -1, 0);
        DUE.is(23, "short, but by a hand", x.owed(1, 399), 0);
        DUE.is(23, "all but it", x.owed(-1, 399), 2 * (999 + 28) + 1);
        x.claim(1, -2, 1);
        DUE.is(23, "short, but from afar", x.owed(1, 399), 0);
        Due.text(x, 0, "s0:c+1;r0:c-1");
        x.claim(1, -2, -2);
        DUE.is(23, "clear, but not short", x.owed(1, 399), 0);
        Due.text(x, 0, "r0:c+1");
        x.claim(1, -2, 2);
        DUE.is(23, "by another program", x.owed(1, 399), 1039);
        DUE.is(23, "by it the first is none", x.owed(0, 399), 0);
        Due.log(x, 1, 1, GAP);
        DUE.is(23, "some fill is enough", x.owed(1, 399), 1039);
        Due.log(x, 1, SELL, GAP);
        DUE.is(23, "no fill", x.owed(1, 399), 0);
    }

    private static void promise24to26() {
        TrueLedger x = new TrueLedger();
        DUE.is(24, "bad", x.judgment(-1, 0), -2);
        DUE.is(24, "bad", x.judgment(0, -1), -2);
        DUE.is(24, "bad", x.judgment(1 << 24, 0), -2);
        DUE.is(24, "bad", x.judgment(0, 1 << 24), -2);
        DUE.is(24, "on all", x.judgment(0b11, 0), 0);
        DUE.is(24, "on a later one", x.judgment(1 << 10, 0), 1);
        DUE.is(24, "on one of two", x.judgment(0, 0b1100), 2);
        DUE.is(24, "on itself", x.judgment(1 << 11, 0), 3);
        DUE.is(24, "on each other", x.judgment(1 << 13, 0), 4);
        DUE.is(24, "on each other", x.judgment(0, 1 << 12), 5);
        DUE.is(24, "on one that is not there", x.judgment(1 << 23, 0), 6);
        DUE.is(24, "on it, or a ground", x.judgment(0, 1 << 23 | 1 << 7), 7);
        DUE.is(26, "standing", x.standing(), 0b10000111);
        DUE.is(25, "bad", x.ground(-1, false), -2);
        DUE.is(25, "bad", x.ground(8, true), -2);
        DUE.is(25, "so already", x.ground(1, true), 0);
        DUE.is(25, "falls", x.ground(1, false), 1);
        DUE.is(25, "so already", x.ground(1, false), 0);
        DUE.is(25, "how many stand", x.count(6), 7);
        DUE.is(26, "not on all", x.standing(), 0b10000110);
        x.ground(2, false);
        DUE.is(26, "still on one", x.standing(), 0b10000110);
        x.ground(3, false);
        DUE.is(26, "on none", x.standing(), 0b10000000);
        DUE.is(25, "stands again", x.ground(3, true), 1);
        DUE.is(26, "and what is led back to it", x.standing(), 0b10000110);
        for (int j = 8; j < 15; j++) DUE.is(24, "judgment", x.judgment(1 << 8 + j + 1, 0), j);
        DUE.is(26, "a chain without an end", x.standing(), 0b10000110);
        DUE.is(24, "its end", x.judgment(0, 0), 15);
        DUE.is(26, "a chain with one", x.standing(), 0b1111111111000110);
        DUE.is(24, "full", x.judgment(0, 0), -4);
        DUE.is(24, "bad before full", x.judgment(1 << 24, 0), -2);
        DUE.is(24, "how many", x.count(5), 16);
        x.ground(7, false);
        for (int g = 0; g < 8; g++) x.ground(g, false);
        DUE.is(25, "none stands", x.count(6), 0);
        DUE.is(26, "without grounds", x.standing(), 0b1111111111000000);
    }

    private static void promise27() {
        TrueLedger x = new TrueLedger();
        DUE.is(24, "on all that can be", new TrueLedger().judgment(0xFFFFFF, 0xFFFFFF), 0);
        x.judgment(1, 0);
        x.judgment(1 << 8, 6);
        x.judgment(0, 1 << 9 | 8);
        x.judgment(1 << 10 | 1 << 4, 0);
        DUE.is(27, "ground 0", x.falling(0), 0b11);
        DUE.is(27, "ground 1", x.falling(1), 0);
        DUE.is(27, "ground 3", x.falling(3), 0);
        DUE.is(27, "ground 4", x.falling(4), 0b1000);
        DUE.is(27, "ground 7", x.falling(7), 0);
        x.ground(3, false);
        DUE.is(27, "ground 0, with 3 fallen", x.falling(0), 0b1111);
        DUE.is(27, "a fallen one", x.falling(3), 0);
        x.ground(2, false);
        DUE.is(27, "ground 1, with 2 fallen", x.falling(1), 0b1110);
        x.ground(4, false);
        DUE.is(27, "what does not stand does not fall", x.falling(1), 0b110);
        DUE.is(27, "nothing has changed", x.standing(), 0b111);
        DUE.is(27, "bad", x.falling(-1), -2);
        DUE.is(27, "bad", x.falling(8), -2);
    }

    private static void order(TrueLedger x, int counters, int cost, int... order) {
        DUE.is(28, "cost of " + counters, x.order(counters, -1), cost);
        for (int i = 0; i < order.length; i++) DUE.is(28, "order of " + counters + ", " + i, x.order(counters, i), order[i]);
        DUE.is(28, "beyond", x.order(counters, order.length), -2);
    }

    private static void promise28() {
        TrueLedger x = new TrueLedger();
        order(x, 0, 0);
        DUE.is(28, "none there", x.order(1, -1), -2);
        for (int c = 0; c < 12; c++) x.counter(0);
        order(x, 0b10, 5, 1);
        order(x, 0b111, 5 + 10 + 15, 0, 1, 2);
        x.tell(0, 1, 10);
        order(x, 0b11, 5 + 15, 1, 0);
        x.tell(0, 2, 2);
        order(x, 0b11, 10 * 2 + 15, 0, 1);
        x.tell(0, 2, 3);
        order(x, 0b11, 10 * 3 + 15, 0, 1);
        x.tell(2, 2, 0);
        x.tell(2, 1, 1);
        order(x, 0b111, 10 * 3 + 15, 0, 1, 2);
        x.tell(1, 2, 0);
        order(x, 0b111, 10 * 3, 0, 1, 2);
        x.tell(0, 2, 0);
        order(x, 0b111, 0, 0, 1, 2);
        for (int c = 4; c < 12; c++) x.tell(c, 1, 16 - c);
        order(x, 0b111111110000, 5 + 11 + 18 + 26 + 35 + 45 + 56 + 68, 11, 10, 9, 8, 7, 6, 5, 4);
        x.tell(11, 2, 50);
        x.tell(4, 2, 50);
        order(x, 0b100000010000, 50 * 5 + 50 * 17, 11, 4);
        DUE.is(28, "nine", x.order(0b111111111000, -1), -2);
        DUE.is(28, "nine", x.order(0b111111111000, 0), -2);
        DUE.is(28, "one that is not there", x.order(1 << 12, -1), -2);
        DUE.is(28, "below 0", x.order(-1, -1), -2);
        DUE.is(28, "below 0", x.order(LEAST, -1), -2);
        DUE.is(28, "i -2", x.order(1, -2), -2);
        DUE.is(28, "far i", x.order(1, MOST), -2);
    }
}
