/** Promises 29 to 36: SHEETS and FINDINGS, count, digest. */
public final class SheetsTest {
    private static final int LEAST = Integer.MIN_VALUE, MOST = Integer.MAX_VALUE;
    private static final Due DUE = new Due("SheetsTest");

    public static void main(String[] args) {
        promise29and30();
        promise31and32();
        promise33();
        promise33refusals();
        promise34();
        promise35();
        promise36();
        DUE.end();
    }

    private static void promise29and30() {
        TrueLedger x = new TrueLedger();
        int[][] bad = {{-1, 0, 1}, {4, 0, 1}, {0, -1, 1}, {0, 3, 1}, {0, 0, 41}, {0, 0, MOST}, {4, 0, -1}, {0, 3, -1}};
        for (int[] a : bad) DUE.is(29, "bad", x.sheet(a[0], a[1], a[2]), -2);
        DUE.is(29, "no finding", x.count(8), 0);
        DUE.is(29, "below 0", x.sheet(0, 0, -1), -15);
        DUE.is(29, "far below 0", x.sheet(0, 0, LEAST), -15);
        DUE.is(29, "its finding", x.count(8), 5);
        DUE.is(30, "still lost", x.lose(0), -11);
        DUE.is(29, "none", x.sheet(0, 0, 0), 0);
        DUE.is(29, "forty", x.sheet(1, 2, 40), 40);
        x.put(1, 2, 39, 5);
        DUE.is(29, "changes nothing", x.sheet(1, 2, -1), -15);
        DUE.is(29, "as it was", x.get(1, 2, 39), 5);
        DUE.is(29, "a new row", x.sheet(1, 2, 40), 40);
        DUE.is(29, "of zeros", x.get(1, 2, 39), 0);
        DUE.is(30, "none", x.lose(0), 0);
        DUE.is(30, "forty", x.lose(1), 40);
        DUE.is(30, "lost already", x.lose(1), -11);
        DUE.is(30, "its finding", x.count(8), 1);
        DUE.is(30, "bad", x.lose(-1), -2);
        DUE.is(30, "bad", x.lose(4), -2);
    }

    private static void promise31and32() {
        TrueLedger x = new TrueLedger();
        DUE.is(31, "lost", x.put(0, 0, 0, 0), -11);
        DUE.is(32, "lost", x.get(0, 0, 0), LEAST);
        int[][] values = {{130, -126, 130, 130}, {-129, 127, -129, -129}, {65535, -1, -1, 65535}, {32768, 0, -32768, 32768},
            {LEAST, 0, 0, LEAST}, {MOST, -1, -1, MOST}, {-128, -128, -128, -128}};
        for (int type = 0; type < 3; type++) {
            DUE.is(29, "sheet", x.sheet(type, type, 2), 2);
            for (int[] v : values) {
                DUE.is(31, "put", x.put(type, type, 1, v[0]), 1);
                DUE.is(32, "get", x.get(type, type, 1), v[1 + type]);
            }
            DUE.is(32, "the other", x.get(type, type, 0), 0);
        }
        DUE.is(31, "another type", x.put(0, 1, 0, 0), -13);
        DUE.is(31, "its finding", x.count(8), 3);
        DUE.is(31, "another type before no item", x.put(0, 1, 2, 0), -13);
        DUE.is(31, "no item", x.put(0, 0, 2, 0), -12);
        DUE.is(31, "its finding", x.count(8), 2);
        DUE.is(31, "no item", x.put(0, 0, -1, 0), -12);
        DUE.is(31, "no item", x.put(0, 0, LEAST, 0), -12);
        DUE.is(32, "another type", x.get(0, 2, 0), LEAST);
        DUE.is(32, "its finding", x.count(8), 3);
        DUE.is(32, "no item", x.get(0, 0, 2), LEAST);
        DUE.is(32, "its finding", x.count(8), 2);
        DUE.is(32, "another type before no item", x.get(0, 2, 2), LEAST);
        DUE.is(32, "its finding", x.count(8), 3);
        DUE.is(32, "lost before another type", x.get(3, 2, 2), LEAST);
        DUE.is(32, "its finding", x.count(8), 1);
        x.put(0, 1, 0, 0);
        int[][] bad = {{-1, 0}, {4, 0}, {0, -1}, {0, 3}, {3, 3}};
        for (int[] a : bad) {
            DUE.is(31, "bad", x.put(a[0], a[1], 0, 0), -2);
            DUE.is(32, "bad", x.get(a[0], a[1], 0), LEAST);
        }
        DUE.is(32, "no finding of these", x.count(8), 3);
    }

    private static void holds(TrueLedger x, String what, int s, int... items) {
        for (int i = 0; i < items.length; i++) DUE.is(33, what + ", item " + i, x.get(s, 2, i), items[i]);
    }

    private static void promise33() {
        TrueLedger x = new TrueLedger();
        Due.row(x, 0, 1, 2, 3, 4, 5);
        Due.row(x, 1, 9, 9, 9);
        DUE.is(33, "to another", x.copy(0, 1, 1, 0, 2), 1);
        holds(x, "to another", 1, 2, 3, 9);
        holds(x, "from one", 0, 1, 2, 3, 4, 5);
        DUE.is(33, "up", x.copy(0, 0, 0, 1, 4), 1);
        holds(x, "up", 0, 1, 1, 2, 3, 4);
        DUE.is(33, "down", x.copy(0, 2, 0, 0, 3), 1);
        holds(x, "down", 0, 2, 3, 4, 3, 4);
        DUE.is(33, "none, from the end", x.copy(0, 5, 1, 3, 0), 1);
        DUE.is(33, "all", x.copy(1, 0, 1, 0, 3), 1);
        holds(x, "all", 1, 2, 3, 9);
        DUE.is(33, "no finding", x.count(8), 0);
    }

    private static void promise33refusals() {
        TrueLedger x = new TrueLedger();
        Due.row(x, 0, 1, 2, 3, 4, 5);
        Due.row(x, 1, 2, 3, 9);
        int[][] noItems = {{0, -1, 1, 0, 1}, {0, 0, 1, -1, 1}, {0, 0, 1, 0, -1}, {0, 4, 1, 0, 2}, {0, 0, 1, 2, 2},
            {0, 6, 1, 0, 0}, {0, 0, 1, 4, 0}, {0, 1, 1, 0, MOST}, {0, MOST, 1, MOST, MOST}, {0, 0, 1, 0, LEAST}};
        for (int[] a : noItems) DUE.is(33, "no such items", x.copy(a[0], a[1], a[2], a[3], a[4]), -12);
        DUE.is(33, "its finding", x.count(8), 2);
        x.sheet(2, 1, 5);
        DUE.is(33, "unlike types", x.copy(0, 0, 2, 0, 1), -14);
        DUE.is(33, "unlike types, none", x.copy(2, 0, 0, 0, 0), -14);
        DUE.is(33, "unlike types before no items", x.copy(0, -1, 2, 0, 9), -14);
        DUE.is(33, "its finding", x.count(8), 4);
        DUE.is(33, "lost", x.copy(3, 0, 0, 0, 0), -11);
        DUE.is(33, "lost", x.copy(0, 0, 3, 0, 0), -11);
        DUE.is(33, "lost before no items", x.copy(0, -1, 3, 0, 0), -11);
        DUE.is(33, "its finding", x.count(8), 1);
        DUE.is(33, "bad", x.copy(-1, 0, 0, 0, 0), -2);
        DUE.is(33, "bad", x.copy(0, 0, 4, 0, 0), -2);
        DUE.is(33, "bad before lost", x.copy(3, 0, 4, 0, 0), -2);
        holds(x, "nothing has changed", 0, 1, 2, 3, 4, 5);
        holds(x, "nothing has changed", 1, 2, 3, 9);
    }

    private static void promise34() {
        TrueLedger x = new TrueLedger();
        x.counter(0);
        Due.log(x, 0, 7, 9, 3);
        DUE.is(34, "lost", x.write(0, 0), -11);
        DUE.is(34, "bad", x.write(1, 0), -2);
        DUE.is(34, "bad", x.write(-1, 0), -2);
        DUE.is(34, "bad", x.write(0, 4), -2);
        DUE.is(34, "bad", x.write(0, -1), -2);
        DUE.is(34, "bad before lost", x.write(1, 1), -2);
        for (int type = 0; type < 3; type++) {
            x.sheet(0, type, 5);
            x.put(0, type, 3, 77);
            DUE.is(34, "all", x.write(0, 0), 3);
            int[] want = {7, -1, 3, 77, 0};
            for (int i = 0; i < 5; i++) DUE.is(34, "item " + i, x.get(0, type, i), want[i]);
        }
        x.sheet(0, 0, 2);
        DUE.is(34, "as many as there are items", x.write(0, 0), 2);
        DUE.is(34, "no item more", x.get(0, 0, 2), LEAST);
        x.sheet(0, 0, 0);
        DUE.is(34, "none", x.write(0, 0), 0);
        x.counter(0);
        x.sheet(0, 0, 3);
        DUE.is(34, "an empty log", x.write(1, 0), 0);
    }

    private static void promise35() {
        TrueLedger x = new TrueLedger();
        Due.text(x, 0, "s0:");
        Due.text(x, 3, "q");
        x.counter(0);
        x.counter(1);
        x.counter(2);
        Due.log(x, 0, 1, -1);
        Due.log(x, 2, 0, 0, 0);
        x.claim(0, 0, 1);
        x.claim(1, 1, 0);
        x.claim(2, -2, -1);
        x.pay(0, 0, 1);
        x.judgment(0, 0);
        x.judgment(0, 0);
        x.ground(0, false);
        x.interest(44);
        x.lose(0);
        int[] want = {4, 3, 5, 2, 1, 2, 7, 44, 1};
        for (int what = 0; what < 9; what++) DUE.is(35, "count " + what, x.count(what), want[what]);
        DUE.is(35, "bad", x.count(-1), -2);
        DUE.is(35, "bad", x.count(9), -2);
        DUE.is(35, "bad", x.count(MOST), -2);
    }

    private static long with(long h, long... each) {
        for (long one : each) h = 31 * h + one;
        return h;
    }

    private static void promise36() {
        TrueLedger x = new TrueLedger();
        long h = with(17, 0, 0, 0, 0, 0, 0, 8, 1);
        for (int v = 0; v < 4; v++) {
            h = with(h, -1);
            for (int line = 0; line < 16; line++) h = with(h, 0);
        }
        DUE.is(36, "a new one", x.digest(), with(h, 0, 0));
        Due.text(x, 0, "r0:m0,m1");
        Due.text(x, 2, "r0");
        x.counter(3);
        x.counter(1);
        Due.log(x, 0, 1);
        x.claim(0, -1, 0);
        x.pay(0, 0, 1000);
        x.judgment(1, 0);
        x.tell(1, 0, 4);
        x.lose(1);
        h = with(17, 10, 2, 1, 1, 1, 1, 8, 1);
        for (int v = 0; v < 4; v++) {
            h = with(h, v == 2 ? 2 : -1);
            for (int line = 0; line < 16; line++) h = with(h, v == 0 && line == 2 ? 2 : 0);
        }
        h = with(h, 3, 1, 0, -1, 0, 1, 10, 5, 1);
        h = with(h, 1, 0, 0, 0, 0, 0, 4, 5, 1);
        DUE.is(36, "with counters", x.digest(), with(h, 1, 1039));
        DUE.is(36, "again", x.digest(), with(h, 1, 1039));
    }
}
