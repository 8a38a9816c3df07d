/** Promises 1 to 10: a new object, VERSIONS, RUNS, LEAST PARTING, MENDED. */
public final class VersionsTest {
    private static final int SELL = 0, REFUND = 1, KEY = 2, SEND = 3, ANSWER = 4, LOST = 5, TICK = 6, BALANCE = 7;
    private static final int LEAST = Integer.MIN_VALUE, MOST = Integer.MAX_VALUE;
    private static final String SOUND = "s0:c+1;r0:c-1;s1:c+1;r1:c-1";
    private static final Due DUE = new Due("VersionsTest");

    public static void main(String[] args) {
        promise1();
        promise2and3();
        promise4();
        promise5();
        promise6();
        promise7();
        promise7refusals();
        promise8and9();
        promise10();
        DUE.end();
    }

    private static void promise1() {
        TrueLedger x = new TrueLedger();
        DUE.is(1, "NONE", TrueLedger.NONE, -1);
        DUE.is(1, "BAD", TrueLedger.BAD, -2);
        DUE.is(1, "NOT", TrueLedger.NOT, -3);
        DUE.is(1, "FULL", TrueLedger.FULL, -4);
        int[] counts = {0, 0, 0, 0, 0, 0, 8, 1, 0};
        for (int what = 0; what < 9; what++) DUE.is(1, "count " + what, x.count(what), counts[what]);
        for (int v = 0; v < 4; v++) {
            DUE.is(1, "fault", x.fault(v), -1);
            for (int line = 0; line < 16; line++) DUE.is(1, "acts", x.acts(v, line), 0);
        }
        DUE.is(1, "about", x.about(0, 0), -1000);
        DUE.is(1, "standing", x.standing(), 0);
        for (int s = 0; s < 4; s++) DUE.is(1, "lose", x.lose(s), -11);
    }

    private static void promise2and3() {
        TrueLedger x = new TrueLedger();
        DUE.is(2, "version -1", x.type(-1, 0), -2);
        DUE.is(2, "version 4", x.type(4, 0), -2);
        DUE.is(2, "far version", x.type(LEAST, 0), -2);
        DUE.is(2, "byte -1", x.type(0, -1), -2);
        DUE.is(2, "byte 256", x.type(0, 256), -2);
        DUE.is(2, "far byte", x.type(0, MOST), -2);
        DUE.is(2, "byte 0", x.type(0, 0), 1);
        DUE.is(2, "byte 255", x.type(0, 255), 2);
        DUE.is(2, "another version", x.type(3, 's'), 1);
        DUE.is(2, "bytes", x.count(0), 3);
        for (int n = 3; n <= 120; n++) DUE.is(2, "byte " + n, x.type(0, 's'), n);
        DUE.is(2, "full", x.type(0, 's'), -4);
        DUE.is(2, "bad before full", x.type(0, 256), -2);
        DUE.is(2, "bytes", x.count(0), 121);
        DUE.is(3, "version -1", x.wipe(-1), -2);
        DUE.is(3, "version 4", x.wipe(4), -2);
        DUE.is(3, "had", x.wipe(0), 120);
        DUE.is(3, "empty", x.wipe(0), 0);
        DUE.is(3, "other stays", x.wipe(3), 1);
        DUE.is(3, "bytes", x.count(0), 0);
        DUE.is(3, "type again", x.type(0, 's'), 1);
    }

    private static void fault(String text, int want) {
        TrueLedger x = new TrueLedger();
        Due.text(x, 2, text);
        DUE.is(4, "fault of " + text, x.fault(2), want);
        DUE.is(4, "acts with " + text, x.acts(2, 0), want == -1 && text.startsWith("s0") ? 1 : 0);
    }

    private static void promise4() {
        fault("", -1);
        for (String event : new String[] {"s", "r", "k", "d", "a", "x", "t", "b"}) fault(event + "0:l+1", -1);
        for (String act : new String[] {"l+0", "p-9", "c=5", "l=p", "p+c", "c-l", "m0", "m1"}) fault("s0:" + act, -1);
        fault("s1:l+1;r0:m1", -1);
        fault("q0:l+1", 0);
        fault(";", 0);
        fault("S0:l+1", 0);
        fault(" s0:l+1", 0);
        fault("s", 1);
        fault("s2:l+1", 1);
        fault("sm:l+1", 1);
        fault("s0", 2);
        fault("s0;", 2);
        fault("s0:", 3);
        fault("s0:;r0:l+1", 3);
        fault("s0:,l+1", 3);
        fault("s0:1+l", 3);
        fault("s0:l", 4);
        fault("s0:l*1", 4);
        fault("s0:m", 4);
        fault("s0:m2", 4);
        fault("s0:ml", 4);
        fault("s0:l+", 5);
        fault("s0:l+m", 5);
        fault("s0:l+:", 5);
        fault("s0:l+12", 6);
        fault("s0:l+1 ", 6);
        fault("s0:m1m0", 5);
        fault("s0:l+1,", 7);
        fault("s0:l+1;", 7);
        fault("s0:l+1;;", 7);
        fault("s0:l+1,,l+1", 7);
        fault("s0:l+1,r0:l+1", 7);
        fault("s0:l+1;r0:l+1;k2", 15);
        fault("s0:l+1\u00ff", 6);
        TrueLedger x = new TrueLedger();
        DUE.is(4, "version -1", x.fault(-1), -2);
        DUE.is(4, "version 4", x.fault(4), -2);
        Due.text(x, 0, "s0:l+");
        DUE.is(4, "ahead of a byte", x.fault(0), 5);
        x.type(0, 'l');
        DUE.is(4, "behind it", x.fault(0), -1);
        x.wipe(0);
        DUE.is(4, "wiped", x.fault(0), -1);
    }

    private static void promise5() {
        TrueLedger x = new TrueLedger();
        Due.text(x, 0, "s0:l+1,m1,p=c;b1:c+9;s0:l+1,p+1;r1:m0");
        int[] acts = new int[16];
        acts[0] = 2;
        acts[3] = 1;
        acts[15] = 1;
        for (int line = 0; line < 16; line++) DUE.is(5, "acts of line " + line, x.acts(0, line), acts[line]);
        DUE.is(5, "version -1", x.acts(-1, 0), -2);
        DUE.is(5, "version 4", x.acts(4, 0), -2);
        DUE.is(5, "line -1", x.acts(0, -1), -2);
        DUE.is(5, "line 16", x.acts(0, 16), -2);
        x.type(0, ';');
        DUE.is(5, "with a fault", x.acts(0, 0), 0);
        StringBuilder most = new StringBuilder("s0:m1");
        while (most.length() + 3 <= 120) most.append(",m0");
        Due.text(x, 1, most.toString());
        DUE.is(5, "the most acts", x.acts(1, 0), 39);
    }

    private static void promise6() {
        TrueLedger x = new TrueLedger();
        Due.text(x, 0, "s0:l+1,p+1;r0:c-1;b1:m0;k0:l=0");
        Due.text(x, 1, "b1:m0;s0:p+1,l+1;r0:c-1;t1:c=c;k0:l=0,m0");
        DUE.is(6, "two texts", x.differ(0, 1), 1 | 1 << 13 | 1 << 4);
        DUE.is(6, "the other way", x.differ(1, 0), 1 | 1 << 13 | 1 << 4);
        DUE.is(6, "itself", x.differ(1, 1), 0);
        DUE.is(6, "an empty one", x.differ(0, 2), 1 | 1 << 2 | 1 << 4 | 1 << 15);
        DUE.is(6, "two empty ones", x.differ(2, 3), 0);
        Due.text(x, 2, "s0:l+1,p+1;s0:p+1;s0:l+1,p+1");
        DUE.is(6, "the last part is so", x.differ(0, 2), 1 << 2 | 1 << 4 | 1 << 15);
        Due.text(x, 3, "s0:l+2;q");
        DUE.is(6, "with a fault as without parts", x.differ(0, 3), 1 | 1 << 2 | 1 << 4 | 1 << 15);
        DUE.is(6, "version -1", x.differ(-1, 0), -2);
        DUE.is(6, "other 4", x.differ(0, 4), -2);
    }

    private static void run(TrueLedger x, String what, int version, int other, int lines, int[] row, int... ends) {
        Due.row(x, 0, row);
        for (int i = 0; i < ends.length; i++) {
            DUE.is(7, what + ", " + i, x.run(version, other, lines, 0, row.length, i), ends[i]);
        }
    }

    private static void promise7() {
        TrueLedger x = new TrueLedger();
        Due.text(x, 0, "s0:l+1,p+2,c+3,m1;s1:l-1,p-l,c=p,m0;r0:c-1;k0:c+9,c+c,c+c,c+c,c+c;t0:c-9,l=c,p-c;b0:c+c");
        Due.text(x, 1, "s1:l=7,m1,l+l;k0:c-9,c+c,c+c,c+c,c+c,p=c");
        run(x, "nothing", 0, 0, 0, new int[] {}, 0, 0, 0, 0, 0, 0);
        run(x, "one", 0, 0, 0, new int[] {SELL}, 1, 2, 3, 1, 1, 0);
        // The LINE is that of the MODE ahead; ACTS behind m are still of it.
        run(x, "two", 0, 0, 0, new int[] {SELL, SELL}, 0, 2, 2, 0, 2, 0);
        run(x, "no part for it", 0, 0, 0, new int[] {SELL, KEY, TICK, LOST, ANSWER, SEND}, 1, 2, 3, 1, 1, 0);
        run(x, "kept to 99", 0, 0, 0, new int[] {KEY, TICK}, 90, -90, 90, 0, 0, 0);
        run(x, "kept to -99", 0, 1, 1 << 4, new int[] {KEY}, 0, -99, -99, 0, 0, 0);
        run(x, "below 0", 0, 0, 0, new int[] {REFUND, REFUND}, 0, 0, -2, 0, -2, 0);
        run(x, "parts", 0, 0, 0, new int[] {REFUND, REFUND, BALANCE}, 0, 0, -4, 0, -2, 1);
        run(x, "no balance last", 0, 0, 0, new int[] {REFUND, BALANCE, REFUND}, 0, 0, -3, 0, -2, 0);
        run(x, "balance that is even", 0, 0, 0, new int[] {BALANCE}, 0, 0, 0, 0, 0, 0);
        run(x, "line 1 from the other", 0, 1, 2, new int[] {SELL, SELL}, 14, 2, 3, 1, 2, 0);
        run(x, "lines from the other that are not asked", 0, 1, 2 | 1 << 4, new int[] {SELL}, 1, 2, 3, 1, 1, 0);
        run(x, "all from the other", 0, 1, 65535, new int[] {SELL, BALANCE}, 0, 0, 0, 0, 1, 1);
        Due.text(x, 2, "s0:c+1");
        int[] forty = new int[40];
        run(x, "forty", 2, 2, 0, forty, 0, 0, 40, 0, 40, 0);
        Due.row(x, 0, SELL, BALANCE, 99);
        DUE.is(7, "the first two alone", x.run(2, 2, 0, 0, 2, 5), 0);
        x.sheet(1, 0, 2);
        x.put(1, 0, 0, 256 + SELL);
        x.put(1, 0, 1, BALANCE);
        DUE.is(7, "bytes", x.run(3, 3, 0, 1, 2, 5), 1);
    }

    private static void promise7refusals() {
        TrueLedger x = new TrueLedger();
        DUE.is(7, "a lost sheet", x.run(0, 0, 0, 0, 0, 0), -1000);
        DUE.is(7, "its finding", x.count(8), 1);
        Due.row(x, 0, SELL, 8, -1);
        DUE.is(7, "too many items", x.run(0, 0, 0, 0, 4, 4), -1000);
        DUE.is(7, "its finding", x.count(8), 2);
        x.put(1, 0, 0, 0);
        DUE.is(7, "bad versions", x.run(-1, 0, 0, 0, 9, 0), -1000);
        DUE.is(7, "bad versions", x.run(0, 4, 0, 0, 9, 0), -1000);
        DUE.is(7, "bad lines", x.run(0, 0, -1, 0, 9, 0), -1000);
        DUE.is(7, "bad lines", x.run(0, 0, 65536, 0, 9, 0), -1000);
        DUE.is(7, "bad sheet", x.run(0, 0, 0, -1, 0, 0), -1000);
        DUE.is(7, "bad sheet", x.run(0, 0, 0, 4, 0, 0), -1000);
        DUE.is(7, "bad n", x.run(0, 0, 0, 0, -1, 0), -1000);
        DUE.is(7, "bad n", x.run(0, 0, 0, 0, 41, 0), -1000);
        DUE.is(7, "bad what", x.run(0, 0, 0, 0, 9, -1), -1000);
        DUE.is(7, "bad what", x.run(0, 0, 0, 0, 9, 6), -1000);
        DUE.is(7, "an item that is no event", x.run(0, 0, 0, 0, 2, 4), -1000);
        DUE.is(7, "nor is this", x.run(0, 0, 0, 0, 3, 4), -1000);
        DUE.is(7, "no finding of these", x.count(8), 1);
        DUE.is(7, "ahead of it", x.run(0, 0, 0, 0, 1, 4), 1);
    }

    private static void parting(TrueLedger x, int version, int other, int lines, int... row) {
        DUE.is(8, "parting", x.parting(version, other, lines), row.length == 0 ? -1 : row.length);
        for (int i = 0; i < 7; i++) {
            DUE.is(9, "event " + i, x.event(version, other, lines, i), i < row.length ? row[i] : -1);
        }
    }

    private static void promise8and9() {
        TrueLedger x = new TrueLedger();
        parting(x, 0, 0, 0, SELL, BALANCE);
        Due.text(x, 0, "b0:c+1");
        parting(x, 0, 0, 0, BALANCE);
        Due.text(x, 0, "s0:c+1");
        parting(x, 0, 0, 0, REFUND, BALANCE);
        Due.text(x, 0, SOUND);
        parting(x, 0, 0, 0);
        Due.text(x, 1, SOUND + ";x0:l=1;t0:c+l");
        parting(x, 1, 1, 0, LOST, TICK, BALANCE);
        Due.text(x, 1, SOUND + ";k0:l=1;d0:p=l;t0:c+p");
        parting(x, 1, 1, 0, KEY, SEND, TICK, BALANCE);
        Due.text(x, 1, SOUND + ";k0:m1;x1:l=1;d1:p=l;t1:c+p");
        parting(x, 1, 1, 0, KEY, LOST, SEND, TICK, BALANCE);
        parting(x, 1, 0, 1 << 13);
        parting(x, 0, 1, 1 << 4 | 1 << 11 | 1 << 7 | 1 << 13, KEY, LOST, SEND, TICK, BALANCE);
        Due.text(x, 2, SOUND + ";k0:m1;x1:l=1;d1:p=l;t1:l=p,p=0,m0;a0:c+l");
        parting(x, 2, 2, 0);
        Due.text(x, 2, "s0:c+1,m1;s1:c+2,m0;r0:c-1;r1:c-1");
        parting(x, 2, 2, 0, SELL, SELL, BALANCE);
        x.wipe(2);
        parting(x, 2, 2, 0, SELL, BALANCE);
        DUE.is(8, "version -1", x.parting(-1, 0, 0), -2);
        DUE.is(8, "other 4", x.parting(0, 4, 0), -2);
        DUE.is(8, "lines -1", x.parting(0, 0, -1), -2);
        DUE.is(8, "lines 65536", x.parting(0, 0, 65536), -2);
        DUE.is(8, "lines 65535", x.parting(2, 0, 65535), -1);
        DUE.is(9, "version 4", x.event(4, 0, 0, 0), -2);
        DUE.is(9, "other -1", x.event(0, -1, 0, 0), -2);
        DUE.is(9, "lines 65536", x.event(0, 0, 65536, 0), -2);
        DUE.is(9, "i -1", x.event(0, 0, 0, -1), -2);
        DUE.is(9, "far i", x.event(2, 2, 0, MOST), -1);
        askedAgain();
    }

    /** What was found once is not told again, where a text has changed or MENDED was sought between. */
    private static void askedAgain() {
        TrueLedger x = new TrueLedger();
        Due.text(x, 1, SOUND);
        DUE.is(8, "parting", x.parting(0, 0, 0), 2);
        DUE.is(10, "mended", x.mended(0, 1), 5);
        DUE.is(9, "event behind mended", x.event(0, 0, 0, 0), SELL);
        DUE.is(9, "event behind mended", x.event(0, 0, 0, 1), BALANCE);
        Due.text(x, 0, "s0:c+1");
        DUE.is(9, "event of the new text", x.event(0, 0, 0, 0), REFUND);
        for (char b : ";r0:c-1".toCharArray()) x.type(0, b);
        DUE.is(8, "parting of the longer text", x.parting(0, 0, 0), -1);
        x.wipe(0);
        DUE.is(9, "event of the wiped text", x.event(0, 0, 0, 0), SELL);
    }

    private static void promise10() {
        TrueLedger x = new TrueLedger();
        Due.text(x, 0, SOUND);
        Due.text(x, 1, SOUND + ";k0:l=1;d0:p=l;t0:c+p");
        DUE.is(10, "none to take", x.mended(0, 1), 0);
        DUE.is(10, "the least of three", x.mended(1, 0), 1 << 4);
        Due.text(x, 1, SOUND + ";k0:m1;x1:l=1;d1:p=l;t1:c+p");
        DUE.is(10, "a row of five is not asked of", x.mended(1, 0), 0);
        Due.text(x, 1, SOUND + ";t0:c+1;a0:c+1;k0:m1");
        DUE.is(10, "two", x.mended(1, 0), 1 << 12 | 1 << 8);
        DUE.is(10, "an empty one by a sound one: the lines of mode 0", x.mended(2, 0), 5);
        DUE.is(10, "by an empty one", x.mended(2, 3), -1);
        DUE.is(10, "by itself, that parts", x.mended(2, 2), -1);
        DUE.is(10, "by itself, that does not", x.mended(0, 0), 0);
        Due.text(x, 2, "s0:p+1;r0:p-1;b0:c+p,p=0");
        Due.text(x, 3, "s0:c+1;r0:c-1;b0:m0");
        DUE.is(10, "both sound", x.mended(2, 3), 0);
        Due.text(x, 3, "s0:c+1;r0:c-1;b0:c+1");
        DUE.is(10, "a sound one by one that parts", x.mended(2, 3), 0);
        DUE.is(10, "the balance alone", x.mended(3, 2), 1 << 14);
        Due.text(x, 2, "s0:m0;r0:m0;k0:m0;d0:m0;a0:m0;x0:m0;t0:m0;b0:m0");
        DUE.is(10, "eight lines and the two of mode 1", x.mended(0, 2), -4);
        Due.text(x, 3, "s0:c+1;r0:c-1");
        DUE.is(10, "eight lines", x.mended(2, 3), 5);
        x.type(2, ';');
        for (char b : "s1:m0".toCharArray()) x.type(2, b);
        DUE.is(10, "nine lines", x.mended(2, 3), -4);
        DUE.is(10, "nine lines, though none need be taken", x.mended(3, 2), -4);
        DUE.is(10, "version -1", x.mended(-1, 0), -2);
        DUE.is(10, "other 4", x.mended(0, 4), -2);
    }
}
