/** Promises 11 to 20: COUNTERS, their LOGS and CLAIMS, FILLS, CAUSES, SETTLING, LIKE. */
public final class CountersTest {
    private static final int SELL = 0, REFUND = 1, KEY = 2, TICK = 6, BALANCE = 7, GAP = -1;
    private static final int LEAST = Integer.MIN_VALUE, MOST = Integer.MAX_VALUE;
    private static final String SOUND = "s0:c+1;r0:c-1;s1:c+1;r1:c-1";
    private static final Due DUE = new Due("CountersTest");

    public static void main(String[] args) {
        promise11();
        promise12();
        promise13and14();
        promise15();
        promise16();
        promise17and18();
        fromAfar();
        fromAfarAnywhere();
        judgedAnew();
        promise19();
        promise20();
        DUE.end();
    }

    private static void promise11() {
        TrueLedger x = new TrueLedger();
        DUE.is(11, "version -1", x.counter(-1), -2);
        DUE.is(11, "version 4", x.counter(4), -2);
        for (int c = 0; c < 12; c++) DUE.is(11, "counter " + c, x.counter(c % 4), c);
        DUE.is(11, "full", x.counter(0), -4);
        DUE.is(11, "bad before full", x.counter(4), -2);
        for (int c = 0; c < 12; c++) DUE.is(11, "its version", x.about(c, 0), c % 4);
        DUE.is(11, "how many", x.count(1), 12);
    }

    private static void promise12() {
        TrueLedger x = new TrueLedger();
        x.counter(0);
        DUE.is(12, "a lost sheet", x.log(0, 0, 0), -11);
        DUE.is(12, "bad before lost", x.log(1, 0, 0), -2);
        Due.row(x, 0, SELL, 8, -1, BALANCE, 100);
        DUE.is(12, "counter -1", x.log(-1, 0, 0), -2);
        DUE.is(12, "sheet -1", x.log(0, -1, 0), -2);
        DUE.is(12, "sheet 4", x.log(0, 4, 0), -2);
        DUE.is(12, "n -1", x.log(0, 0, -1), -2);
        DUE.is(12, "n 13", x.log(0, 0, 13), -2);
        DUE.is(12, "n above the items", x.log(0, 0, 6), -12);
        DUE.is(12, "its finding", x.count(8), 2);
        DUE.is(12, "three lost", x.log(0, 0, 5), 0);
        int[] want = {SELL, GAP, GAP, BALANCE, GAP};
        for (int i = 0; i < 5; i++) DUE.is(12, "logged " + i, x.logged(0, i), want[i]);
        DUE.is(12, "events with the lost ones", x.count(2), 5);
        Due.row(x, 0, 9, 9, 9, 9, 0, 0, 0, 0, 0, 0, 0, 0);
        DUE.is(12, "four lost", x.log(0, 0, 4), -3);
        DUE.is(12, "nothing has changed", x.about(0, 1), 5);
        DUE.is(12, "three of them", x.log(0, 0, 3), 5);
        DUE.is(12, "lost ones anew", x.about(0, 2), 3);
        Due.row(x, 0, 7, 6, 5, 4, 3, 2, 1, 0, 7, 6, 5, 4, 3);
        DUE.is(12, "twelve", x.log(0, 0, 12), 3);
        DUE.is(12, "none", x.log(0, 0, 0), 12);
        DUE.is(12, "it is empty", x.about(0, 1), 0);
        x.sheet(1, 0, 1);
        x.put(1, 0, 0, 256 + TICK);
        x.log(0, 1, 1);
        DUE.is(12, "of bytes", x.logged(0, 0), TICK);
    }

    private static void promise13and14() {
        TrueLedger x = new TrueLedger();
        x.counter(1);
        x.counter(3);
        int[] first = {3, 0, 0, 0, 0, 0, 10, 5, 1};
        for (int what = 0; what < 9; what++) DUE.is(14, "at first " + what, x.about(1, what), first[what]);
        DUE.is(13, "claim", x.claim(1, -99, 99), 1);
        Due.log(x, 1, SELL, GAP, BALANCE);
        x.tell(1, 0, 0);
        x.tell(1, 1, 50);
        x.tell(1, 2, 7);
        int[] then = {3, 3, 1, -99, 99, 1, 0, 50, 7};
        for (int what = 0; what < 9; what++) DUE.is(14, "then " + what, x.about(1, what), then[what]);
        DUE.is(14, "the other stays", x.about(0, 4), 0);
        x.claim(1, 5, 5);
        DUE.is(14, "even is not short", x.about(1, 5), 0);
        x.claim(1, 5, 4);
        DUE.is(14, "below is not short", x.about(1, 5), 0);
        x.claim(1, -5, -4);
        DUE.is(14, "above is short", x.about(1, 5), 1);
        int[][] bad = {{-1, 0, 0}, {2, 0, 0}, {0, 100, 0}, {0, -100, 0}, {0, 0, 100}, {0, 0, -100}, {0, LEAST, MOST}};
        for (int[] a : bad) DUE.is(13, "bad", x.claim(a[0], a[1], a[2]), -2);
        DUE.is(13, "nothing has changed", x.about(0, 3), 0);
        int[][] badAbout = {{-1, 0}, {2, 0}, {0, -1}, {0, 9}, {MOST, LEAST}};
        for (int[] a : badAbout) DUE.is(14, "bad", x.about(a[0], a[1]), -1000);
    }

    private static void promise15() {
        TrueLedger x = new TrueLedger();
        x.counter(0);
        int[][] tells = {{0, 0, 10}, {0, 99, 0}, {0, 3, 99}, {1, 1, 5}, {1, 50, 1}, {2, 0, 1}, {2, 50, 0}};
        for (int[] a : tells) DUE.is(15, "tell " + a[0] + " " + a[1], x.tell(0, a[0], a[1]), a[2]);
        int[][] bad = {{0, 0, -1}, {0, 0, 100}, {0, 1, 0}, {0, 1, 51}, {0, 2, -1}, {0, 2, 51}, {0, -1, 1}, {0, 3, 1},
            {-1, 0, 1}, {1, 0, 1}, {0, MOST, LEAST}};
        for (int[] a : bad) DUE.is(15, "bad", x.tell(a[0], a[1], a[2]), -2);
        DUE.is(15, "page", x.about(0, 6), 3);
        DUE.is(15, "days", x.about(0, 7), 50);
        DUE.is(15, "weight", x.about(0, 8), 50);
    }

    private static void promise16() {
        TrueLedger x = new TrueLedger();
        x.counter(0);
        DUE.is(16, "an empty log", x.logged(0, 0), -2);
        Due.log(x, 0, BALANCE, GAP);
        DUE.is(16, "an event", x.logged(0, 0), BALANCE);
        DUE.is(16, "a lost one", x.logged(0, 1), -1);
        DUE.is(16, "beyond", x.logged(0, 2), -2);
        DUE.is(16, "below", x.logged(0, -1), -2);
        DUE.is(16, "no counter", x.logged(1, 0), -2);
        DUE.is(16, "no counter", x.logged(-1, 0), -2);
    }

    private static void fills(TrueLedger x, String what, int all, int clear, int hand, int afar) {
        int[] want = {all, clear, hand, afar};
        for (int i = 0; i < 4; i++) DUE.is(17, what + ": fills " + i, x.fills(0, i), want[i]);
        int causes = (clear > 0 ? 1 : 0) | (hand > 0 ? 2 : 0) | (afar > 0 ? 4 : 0);
        DUE.is(18, what + ": causes", x.causes(0), causes);
    }

    private static void promise17and18() {
        TrueLedger x = new TrueLedger();
        x.counter(0);
        fills(x, "an empty log", 1, 1, 0, 0);
        x.claim(0, -1, 0);
        fills(x, "a hand ahead of all", 1, 0, 1, 0);
        x.claim(0, 0, -3);
        fills(x, "from afar ahead of all", 1, 0, 0, 1);
        x.claim(0, 2, 0);
        fills(x, "two coins are no hand's", 1, 0, 0, 0);
        x.claim(0, 0, 4);
        fills(x, "four are not from afar", 1, 0, 0, 0);
        x.claim(0, 1, 1);
        fills(x, "not both at once", 1, 0, 0, 0);
        Due.text(x, 0, SOUND);
        Due.log(x, 0, SELL, GAP);
        x.claim(0, 1, 1);
        fills(x, "six that move no coin", 8, 6, 0, 0);
        x.claim(0, 1, 2);
        fills(x, "a sell and a hand; six from afar", 8, 0, 1, 6);
        x.claim(0, 1, 0);
        fills(x, "a refund and a hand; six from afar", 8, 0, 1, 6);
        Due.log(x, 0, GAP, GAP, GAP);
        x.claim(0, 3, 3);
        fills(x, "three sells", 512, 1, 0, 0);
        x.claim(0, 3, 2);
        fills(x, "two sells and a hand; three from afar", 512, 0, 18, 1);
        DUE.is(17, "counter 1", x.fills(1, 0), -2);
        DUE.is(17, "counter -1", x.fills(-1, 0), -2);
        DUE.is(17, "what -1", x.fills(0, -1), -2);
        DUE.is(17, "what 4", x.fills(0, 4), -2);
        DUE.is(18, "counter 1", x.causes(1), -2);
        DUE.is(18, "counter -1", x.causes(-1), -2);
    }

    private static void fromAfar() {
        TrueLedger x = new TrueLedger();
        x.counter(0);
        Due.text(x, 0, "t0:c+c;k0:c=0;b0:l=c");
        Due.log(x, 0, TICK, TICK, TICK);
        for (int ledger = -25; ledger <= 25; ledger++) {
            x.claim(0, 0, ledger);
            int n = Math.abs(ledger);
            boolean isPosted = n >= 1 && n <= 3 || n == 2 || n == 4 || n == 6 || n == 8 || n == 12 || n == 16 || n == 24;
            fills(x, "doubled thrice, " + ledger, 1, ledger == 0 ? 1 : 0, 0, isPosted ? 1 : 0);
        }
        Due.log(x, 0, KEY);
        x.claim(0, 0, 0);
        fills(x, "what was posted is gone: clear and from afar", 1, 1, 0, 1);
        x.claim(0, 1, 0);
        fills(x, "by a hand alone", 1, 0, 1, 0);
        Due.text(x, 0, "t0:c=9,c+c,c+c,c+c,c+c");
        Due.log(x, 0, TICK);
        x.claim(0, 0, 99);
        fills(x, "added beyond 99, as an act would", 1, 1, 0, 1);
        x.claim(0, 0, 96);
        fills(x, "taken from 99", 1, 0, 0, 1);
        x.claim(0, 0, 95);
        fills(x, "too far", 1, 0, 0, 0);
        Due.text(x, 0, "t0:l=c;b0:c+l");
        Due.log(x, 0, TICK, KEY, BALANCE);
        for (int ledger = -7; ledger <= 7; ledger++) {
            x.claim(0, 0, ledger);
            int n = Math.abs(ledger);
            boolean isPosted = n >= 1 && n <= 3 || n == 4 || n == 6;
            fills(x, "by way of another register, " + ledger, 1, ledger == 0 ? 1 : 0, 0, isPosted ? 1 : 0);
        }
    }

    /** A row posted at any of thirteen places ends otherwise than at each other one. */
    private static void fromAfarAnywhere() {
        TrueLedger x = new TrueLedger();
        x.counter(0);
        Due.text(x, 0, "t0:l+c,p+l;b0:c+c,c+c,c+l");
        Due.log(x, 0, TICK, TICK, TICK, TICK, TICK, TICK, TICK, TICK, TICK, TICK, TICK, BALANCE);
        for (int ledger = -46; ledger <= 46; ledger++) {
            int n = Math.abs(ledger);
            boolean isPosted = n >= 1 && n <= 3;
            for (int behind = 0; behind <= 11; behind++) {
                for (int d = 1; d <= 3; d++) isPosted |= n == d * (15 - behind);
            }
            x.claim(0, 0, ledger);
            DUE.is(17, "posted to " + ledger, x.fills(0, 3), isPosted ? 1 : 0);
        }
    }

    /** What was found of FILLS is found anew behind every change that it hangs on. */
    private static void judgedAnew() {
        TrueLedger x = new TrueLedger();
        x.counter(0);
        Due.log(x, 0, SELL);
        x.claim(0, 1, 1);
        fills(x, "without a program", 1, 0, 0, 1);
        Due.text(x, 0, "s0:c+1");
        fills(x, "with one", 1, 1, 0, 0);
        x.type(0, ';');
        fills(x, "with a fault", 1, 0, 0, 1);
        x.wipe(0);
        Due.log(x, 0, SELL, SELL);
        fills(x, "another log", 1, 0, 0, 0);
        x.claim(0, 1, 0);
        fills(x, "another claim", 1, 0, 1, 0);
        Due.text(x, 1, "s0:c+1");
        fills(x, "another version's text", 1, 0, 1, 0);
    }

    private static void settling(TrueLedger x, String what, int bits, int cost) {
        DUE.is(19, what + ": settling", x.settling(0, 0), bits);
        DUE.is(19, what + ": cost", x.settling(0, 1), cost);
    }

    private static void promise19() {
        TrueLedger x = new TrueLedger();
        x.counter(0);
        settling(x, "an empty log", 0, 0);
        x.claim(0, 50, 50);
        settling(x, "no cause", -3, -3);
        Due.text(x, 0, SOUND);
        Due.log(x, 0, SELL, GAP);
        x.claim(0, 1, 1);
        settling(x, "all that have a cause have the same", 0, 0);
        x.claim(0, 1, 2);
        settling(x, "a sell and a hand, or from afar", 1, 10);
        x.tell(0, 0, 7);
        settling(x, "a page for 7", 1, 7);
        x.tell(0, 0, 0);
        settling(x, "a page for nothing", 1, 0);
        x.tell(0, 0, 99);
        // Behind a BALANCE nothing moves c, but the coins of a sell or a refund stay.
        Due.text(x, 0, "b0:m1;s0:c+1;r0:c-1");
        Due.log(x, 0, GAP, BALANCE, GAP);
        x.claim(0, 0, 1);
        // SELL ahead and none behind: by a hand; SELL ahead and REFUND behind: clear; none at all: from afar.
        settling(x, "both, for the second alone leaves a hand or from afar", 3, 198);
        x.claim(0, 1, 0);
        // None ahead: SELL behind is clear, any of six is by a hand. SELL ahead, none behind: from afar.
        settling(x, "both again", 3, 198);
        Due.text(x, 0, "s0:c+1;r0:c-1;x0:m1;x1:c=0");
        Due.log(x, 0, 5, GAP, 5);
        x.claim(0, 0, 0);
        // The second LOST sets c to 0 behind all: clear and from afar, but by a hand with a coin between.
        settling(x, "a coin or none", 1, 99);
        Due.text(x, 0, "k0:c=1,m1");
        Due.log(x, 0, TICK, GAP, KEY, GAP);
        x.claim(0, 0, 1);
        settling(x, "both, for the coins", 3, 198);
        DUE.is(19, "counter 1", x.settling(1, 0), -2);
        DUE.is(19, "counter -1", x.settling(-1, 0), -2);
        DUE.is(19, "what -1", x.settling(0, -1), -2);
        DUE.is(19, "what 2", x.settling(0, 2), -2);
        x.claim(0, 50, 50);
        DUE.is(19, "bad before not", x.settling(0, 2), -2);
        leastOfLike();
    }

    private static void leastOfLike() {
        TrueLedger x = new TrueLedger();
        x.counter(0);
        Due.text(x, 0, "k0:c=9,m1");
        Due.log(x, 0, GAP, BALANCE);
        x.claim(0, 0, 9);
        // A KEY is clear and from afar (it sets c anew); no other comes near.
        settling(x, "one alone has a cause", 0, 0);
        Due.text(x, 0, "t1:c+1;s0:m1");
        Due.log(x, 0, GAP, GAP);
        x.claim(0, 1, 1);
        // SELL, TICK is clear; SELL and any other without a coin, in either order, is from afar.
        settling(x, "the second alone", 2, 10);
        Due.log(x, 0, 4, 5, GAP, GAP, GAP);
        x.claim(0, 1, 2);
        // SELL, TICK, TICK is clear; all others with one SELL and no REFUND are from afar.
        settling(x, "the second and the third", 6, 20);
        Due.log(x, 0, GAP, GAP, GAP);
        Due.text(x, 0, "s1:c+1;r1:c-1;r0:m1");
        x.claim(0, 0, 1);
        settling(x, "the first and the third", 5, 20);
        Due.text(x, 0, "r1:c-1;s0:c+1,m1");
        Due.log(x, 0, GAP, GAP, BALANCE, GAP);
        x.claim(0, -2, 1);
        settling(x, "the third alone", 4, 10);
    }

    private static void promise20() {
        TrueLedger x = new TrueLedger();
        for (int c = 0; c < 4; c++) x.counter(2);
        x.counter(1);
        DUE.is(20, "an empty log", x.like(0, 1), -2);
        Due.log(x, 0, KEY, SELL, SELL, BALANCE);
        Due.log(x, 1, SELL, SELL, BALANCE, TICK);
        Due.log(x, 2, KEY, GAP, GAP, BALANCE, REFUND);
        Due.log(x, 3, SELL, BALANCE);
        Due.log(x, 4, KEY, SELL, SELL, BALANCE);
        DUE.is(20, "k 1", x.like(0, 1), 2 | 4 | 8);
        DUE.is(20, "k 2", x.like(0, 2), 2 | 4 | 8);
        DUE.is(20, "k 3", x.like(0, 3), 2 | 4);
        DUE.is(20, "k 4", x.like(0, 4), 4);
        DUE.is(20, "k above its log", x.like(0, 5), -2);
        DUE.is(20, "k 0", x.like(0, 0), -2);
        DUE.is(20, "k -1", x.like(0, -1), -2);
        DUE.is(20, "far k", x.like(0, MOST), -2);
        DUE.is(20, "no counter", x.like(5, 1), -2);
        DUE.is(20, "no counter", x.like(-1, 1), -2);
        DUE.is(20, "none of its version", x.like(4, 1), 0);
        DUE.is(20, "ahead of what is lost", x.like(2, 2), 0);
        DUE.is(20, "with what is lost", x.like(2, 3), -3);
        DUE.is(20, "bad before lost", x.like(2, 6), -2);
        Due.log(x, 1, SELL, KEY, SELL);
        Due.log(x, 2, GAP, GAP);
        Due.log(x, 3, SELL, SELL, BALANCE, SELL, BALANCE);
        DUE.is(20, "one after the other", x.like(0, 2), 4 | 8);
        DUE.is(20, "a second begin", x.like(0, 3), 8);
        Due.log(x, 0, 0, 1, 2, 3, 4, 5, 6, 7, 0, 1, 2, 3);
        Due.log(x, 1, 0, 1, GAP, 3, 4, GAP, 6, 7, 0, 1, 2, GAP);
        DUE.is(20, "twelve", x.like(0, 12), 2);
        DUE.is(20, "thirteen", x.like(0, 13), -2);
    }
}
