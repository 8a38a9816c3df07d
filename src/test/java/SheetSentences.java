/** Promises 29 to 36 and the Terms that they show, sentence by sentence: SHEETS, FINDINGS, count, digest. */
final class SheetSentences {
    private static final int LEAST = Integer.MIN_VALUE, MOST = Integer.MAX_VALUE;
    private static final int NULL = 1, INDEX = 2, CAST = 3, STORE = 4, SIZE = 5;

    private final Sentences d;

    SheetSentences(Sentences d) {
        this.d = d;
    }

    void tell() {
        sheets();
        sheetRefused();
        lose();
        put();
        putRefused();
        get();
        copy();
        copyRefused();
        write();
        findings();
        count();
        digest();
        refusals();
    }

    /** SHEETS 0, 1, 2 of TYPES 0, 1, 2 with n items each; SHEET 3 is LOST. */
    private static TrueLedger ofEachType(int n) {
        TrueLedger x = new TrueLedger();
        for (int type = 0; type < 3; type++) x.sheet(type, type, n);
        return x;
    }

    private static long[] items(TrueLedger x, int s, int type, int n) {
        long[] items = new long[n];
        for (int i = 0; i < n; i++) items[i] = x.get(s, type, i);
        return items;
    }

    private void sheets() {
        TrueLedger x = new TrueLedger();
        d.of(29, "SHEETS 0 .. 3 are LOST (at first)");
        d.all("lose", -11, x.lose(0), x.lose(1), x.lose(2), x.lose(3));
        d.of(29, "or a row of a TYPE: 0 bytes, 1 shorts, 2 ints, of 0 to 40 items (0 at first).");
        for (int type = 0; type < 3; type++) {
            d.is("forty", x.sheet(3, type, 40), 40);
            for (int i = 0; i < 40; i++) d.is("item " + i, x.get(3, type, i), 0);
            d.is("no item more", x.get(3, type, 40), LEAST);
            d.is("the last becomes", x.put(3, type, 39, 5), 1);
        }
        for (int type = 0; type < 3; type++) {
            d.is("none", x.sheet(type, type, 0), 0);
            d.is("no item", x.get(type, type, 0), LEAST);
        }
        d.of(29, "A SHEET is a new row of a TYPE with n items: n.");
        d.is("one, of another TYPE", x.sheet(3, 0, 1), 1);
        d.is("0 again", x.get(3, 0, 0), 0);
        d.is("no item more", x.put(3, 0, 1, 0), -12);
        d.is("longer again", x.sheet(3, 0, 40), 40);
        d.is("nothing stays of an earlier one", x.get(3, 0, 39), 0);
    }

    private void sheetRefused() {
        TrueLedger x = ofEachType(2);
        x.put(0, 0, 1, 9);
        String before = Sentences.snapshot(x);
        d.of(29, "SIZE.");
        d.all("below 0", -15, x.sheet(0, 0, -1), x.sheet(0, 2, LEAST), x.sheet(3, 0, -1));
        d.is("its number", x.count(8), SIZE);
        x.lose(3);
        d.of(29, "BAD: SHEET, TYPE, above 40;");
        d.all("SHEET", -2, x.sheet(-1, 0, 1), x.sheet(4, 0, 1), x.sheet(LEAST, 0, 1), x.sheet(MOST, 0, 1));
        d.all("TYPE", -2, x.sheet(0, -1, 1), x.sheet(0, 3, 1), x.sheet(0, LEAST, 1), x.sheet(0, MOST, 1));
        d.all("above 40", -2, x.sheet(0, 0, 41), x.sheet(0, 0, MOST));
        d.all("ahead of SIZE", -2, x.sheet(-1, 0, -1), x.sheet(4, 0, LEAST), x.sheet(0, 3, -1), x.sheet(0, -1, -1));
        d.is("it is no FINDING", x.count(8), NULL);
        d.same(before, x);
    }

    private void lose() {
        TrueLedger x = new TrueLedger();
        x.sheet(0, 0, 0);
        x.sheet(3, 2, 40);
        d.of(30, "It is LOST: how many items it had.");
        d.is("none", x.lose(0), 0);
        d.is("forty", x.lose(3), 40);
        d.is("they are gone", x.get(3, 2, 0), LEAST);
        d.is("for it is LOST", x.count(8), NULL);
        d.of(30, "NULL.");
        d.all("LOST already", -11, x.lose(0), x.lose(3), x.lose(1));
        d.is("its number", x.count(8), NULL);
        d.of(30, "BAD;");
        x.sheet(0, 0, -1);
        d.all("no such SHEET", -2, x.lose(-1), x.lose(4), x.lose(LEAST), x.lose(MOST));
        d.is("it is no FINDING", x.count(8), SIZE);
    }

    private void put() {
        TrueLedger x = ofEachType(40);
        d.of(31, "Item i, treated as of a TYPE, becomes v (the lowest bits that it has): 1.");
        int[][] values = {{0, 0, 0, 0}, {127, 127, 127, 127}, {128, -128, 128, 128}, {-128, -128, -128, -128},
            {-129, 127, -129, -129}, {255, -1, 255, 255}, {256, 0, 256, 256}, {32767, -1, 32767, 32767},
            {32768, 0, -32768, 32768}, {-32769, -1, 32767, -32769}, {65535, -1, -1, 65535}, {65536, 0, 0, 65536},
            {MOST, -1, -1, MOST}, {LEAST, 0, 0, LEAST}, {-1, -1, -1, -1}, {0x12345678, 0x78, 0x5678, 0x12345678}};
        for (int type = 0; type < 3; type++) {
            for (int[] v : values) {
                d.is("put " + v[0], x.put(type, type, 39, v[0]), 1);
                d.is("as of TYPE " + type, x.get(type, type, 39), v[1 + type]);
            }
            d.is("the first item", x.put(type, type, 0, 1), 1);
            d.all("no other", 0, x.get(type, type, 1), x.get(type, type, 38));
        }
    }

    private void putRefused() {
        TrueLedger x = ofEachType(2);
        String before = Sentences.snapshot(x);
        d.of(31, "CAST;");
        d.all("another TYPE", -13, x.put(0, 1, 0, 7), x.put(0, 2, 0, 7), x.put(1, 0, 0, 7), x.put(2, 1, 1, 7));
        d.is("its number", x.count(8), CAST);
        d.all("ahead of INDEX", -13, x.put(0, 1, 2, 7), x.put(1, 2, -1, 7));
        d.of(31, "INDEX.");
        d.all("no such item", -12, x.put(0, 0, -1, 7), x.put(0, 0, 2, 7), x.put(1, 1, LEAST, 7), x.put(2, 2, MOST, 7));
        d.is("its number", x.count(8), INDEX);
        d.of(31, "NULL;");
        d.all("LOST, ahead of CAST and INDEX", -11, x.put(3, 0, 0, 7), x.put(3, 2, 0, 7), x.put(3, 1, -1, 7));
        d.is("its number", x.count(8), NULL);
        d.of(31, "BAD;");
        x.put(0, 1, 0, 7);
        d.all("SHEET", -2, x.put(-1, 0, 0, 7), x.put(4, 0, 0, 7), x.put(LEAST, 0, 0, 7), x.put(MOST, 0, 0, 7));
        d.all("TYPE", -2, x.put(0, -1, 0, 7), x.put(0, 3, 0, 7), x.put(0, LEAST, 0, 7), x.put(3, MOST, 0, 7));
        d.is("it is no FINDING", x.count(8), CAST);
        d.same(before, x);
    }

    private void got(String what, TrueLedger x, int answer, int finding) {
        d.is(what, answer, LEAST);
        d.is(what + ": the FINDING", x.count(8), finding);
    }

    private void get() {
        TrueLedger x = ofEachType(3);
        x.put(2, 2, 2, 77);
        d.of(32, "Item i of it.");
        d.each("all three", items(x, 2, 2, 3), 0, 0, 77);
        d.of(32, "BAD: the least int;");
        d.all("SHEET", LEAST, x.get(-1, 0, 0), x.get(4, 0, 0), x.get(LEAST, 0, 0), x.get(MOST, 0, 0));
        d.all("TYPE", LEAST, x.get(0, -1, 0), x.get(0, 3, 0), x.get(0, LEAST, 0), x.get(3, MOST, 0));
        d.is("it is no FINDING", x.count(8), 0);
        d.of(32, "so are NULL, CAST, INDEX (count() 8 tells).");
        got("LOST", x, x.get(3, 0, 0), NULL);
        got("another TYPE", x, x.get(0, 1, 0), CAST);
        got("behind the last", x, x.get(0, 0, 3), INDEX);
        got("LOST, ahead of the others", x, x.get(3, 2, -1), NULL);
        got("below 0", x, x.get(0, 0, -1), INDEX);
        got("another TYPE, ahead of no item", x, x.get(1, 0, 3), CAST);
        got("far below 0", x, x.get(0, 0, LEAST), INDEX);
        got("far beyond", x, x.get(2, 2, MOST), INDEX);
    }

    private void copy() {
        TrueLedger x = new TrueLedger();
        Due.row(x, 0, 1, 2, 3, 4, 5);
        Due.row(x, 1, 9, 9, 9);
        d.of(33, "n items of SHEET s, from i on, come to SHEET t");
        d.is("two", x.copy(0, 3, 1, 1, 2), 1);
        d.each("they came", items(x, 1, 2, 3), 9, 4, 5);
        d.each("they stay as well", items(x, 0, 2, 5), 1, 2, 3, 4, 5);
        d.of(33, ", from j on: 1.");
        d.is("to the first", x.copy(0, 0, 1, 0, 1), 1);
        d.each("it came", items(x, 1, 2, 3), 1, 4, 5);
        d.is("all", x.copy(1, 0, 0, 2, 3), 1);
        d.each("they came", items(x, 0, 2, 5), 1, 2, 1, 4, 5);
        d.is("none", x.copy(0, 0, 1, 0, 0), 1);
        d.is("none from behind the last, to behind the last", x.copy(0, 5, 1, 3, 0), 1);
        d.each("nothing came", items(x, 1, 2, 3), 1, 4, 5);
        d.of(33, "(perhaps s, as they were)");
        d.is("upwards", x.copy(0, 0, 0, 1, 4), 1);
        d.each("as they were", items(x, 0, 2, 5), 1, 1, 2, 1, 4);
        d.is("downwards", x.copy(0, 2, 0, 0, 3), 1);
        d.each("as they were", items(x, 0, 2, 5), 2, 1, 4, 1, 4);
        d.is("to where they are", x.copy(0, 0, 0, 0, 5), 1);
        d.each("as they were", items(x, 0, 2, 5), 2, 1, 4, 1, 4);
        TrueLedger y = ofEachType(40);
        y.sheet(3, 0, 40);
        for (int i = 0; i < 40; i++) y.put(0, 0, i, i);
        d.is("forty", y.copy(0, 0, 3, 0, 40), 1);
        d.is("the first of them", y.get(3, 0, 1), 1);
        d.is("the last of them", y.get(3, 0, 39), 39);
    }

    private void copyRefused() {
        TrueLedger x = new TrueLedger();
        Due.row(x, 0, 1, 2, 3, 4, 5);
        Due.row(x, 1, 9, 9, 9);
        x.sheet(2, 1, 5);
        String before = Sentences.snapshot(x);
        d.of(33, "INDEX: below 0, not so many.");
        d.all("below 0", -12, x.copy(0, -1, 1, 0, 1), x.copy(0, 0, 1, -1, 1), x.copy(0, 0, 1, 0, -1));
        d.all("far below 0", -12, x.copy(0, LEAST, 1, 0, 1), x.copy(0, 0, 1, LEAST, 1), x.copy(0, 0, 1, 0, LEAST));
        d.all("not so many in s", -12, x.copy(0, 5, 1, 0, 1), x.copy(0, 3, 1, 0, 3), x.copy(1, 0, 0, 0, 4));
        d.all("not so many in t", -12, x.copy(0, 0, 1, 3, 1), x.copy(0, 0, 1, 1, 3), x.copy(0, 0, 1, 0, 4));
        d.all("none, but from beyond", -12, x.copy(0, 6, 1, 0, 0), x.copy(0, 0, 1, 4, 0), x.copy(0, MOST, 1, 0, 0));
        d.all("sums that wrap", -12, x.copy(0, 1, 1, 0, MOST), x.copy(0, 0, 1, 1, MOST), x.copy(0, MOST, 1, MOST, MOST));
        d.is("its number", x.count(8), INDEX);
        d.of(33, "STORE;");
        d.all("unlike TYPES", -14, x.copy(0, 0, 2, 0, 1), x.copy(2, 0, 1, 0, 1), x.copy(2, 0, 0, 0, 0));
        d.all("ahead of INDEX", -14, x.copy(0, -1, 2, 0, 1), x.copy(2, 0, 0, 0, 41));
        d.is("its number", x.count(8), STORE);
        d.of(33, "NULL: s, t;");
        d.all("LOST", -11, x.copy(3, 0, 0, 0, 0), x.copy(0, 0, 3, 0, 0), x.copy(3, 0, 3, 0, 0));
        d.all("ahead of STORE and INDEX", -11, x.copy(2, -1, 3, 0, 1), x.copy(3, 0, 2, 0, 41));
        d.is("its number", x.count(8), NULL);
        d.of(33, "BAD: the SHEETS;");
        x.copy(0, 0, 2, 0, 0);
        for (int far : new int[] {-1, 4, LEAST, MOST}) {
            d.all("ahead of NULL and INDEX", -2, x.copy(far, 0, 0, 0, 0), x.copy(0, 0, far, 0, 0), x.copy(3, -1, far, 0, 0));
        }
        d.is("it is no FINDING", x.count(8), STORE);
        d.same(before, x);
    }

    private void write() {
        TrueLedger x = new TrueLedger();
        x.counter(0);
        x.counter(0);
        Due.log(x, 0, 7, 9, 0, -1, 6);
        d.of(34, "A COUNTER's LOG comes to a SHEET from item 0 on (NONE: LOST),");
        for (int type = 0; type < 3; type++) {
            x.sheet(0, type, 7);
            for (int i = 0; i < 7; i++) x.put(0, type, i, 70 + i);
            d.is("five", x.write(0, 0), 5);
            d.each("the items behind them stay", items(x, 0, type, 7), 7, -1, 0, -1, 6, 75, 76);
        }
        d.of(34, "as many as there are items: how many.");
        x.sheet(0, 1, 2);
        d.is("two", x.write(0, 0), 2);
        d.each("they came", items(x, 0, 1, 2), 7, -1);
        x.sheet(0, 1, 5);
        d.is("just as many", x.write(0, 0), 5);
        x.sheet(0, 1, 0);
        d.is("no items", x.write(0, 0), 0);
        x.sheet(0, 1, 40);
        d.is("an empty LOG", x.write(1, 0), 0);
        d.of(34, "NULL.");
        d.all("LOST", -11, x.write(0, 1), x.write(1, 2));
        d.is("its number", x.count(8), NULL);
        d.of(34, "BAD;");
        x.sheet(0, 0, -1);
        String before = Sentences.snapshot(x);
        x.sheet(0, 0, -1);
        d.all("COUNTER", -2, x.write(-1, 0), x.write(2, 0), x.write(LEAST, 0), x.write(MOST, 0));
        d.all("SHEET", -2, x.write(0, -1), x.write(0, 4), x.write(0, LEAST), x.write(0, MOST));
        d.is("ahead of NULL", x.write(2, 1), -2);
        d.is("it is no FINDING", x.count(8), SIZE);
        d.same(before, x);
    }

    private void findings() {
        TrueLedger x = ofEachType(1);
        x.counter(0);
        d.of(35, "8 the number of the latest FINDING (0 before any).");
        d.is("before any", x.count(8), 0);
        d.is("1 by lose", -10 - x.lose(3), 1);
        d.is("count", x.count(8), 1);
        d.is("a call that is not refused leaves it", x.put(0, 0, 0, 1) + x.count(8), 2);
        d.is("a call that is BAD leaves it", x.put(0, 9, 0, 1) + x.count(8), -1);
        d.of(35, "FINDINGS (answers -10 less the number; they change nothing but count() 8): 1 NULL: the SHEET is LOST; "
            + "2 INDEX: there is no such item; 3 CAST: it has another TYPE; 4 STORE: unlike TYPES; 5 SIZE: below 0.");
        String before = Sentences.snapshot(x);
        int[] got = {x.lose(3), x.count(8), x.put(0, 0, 1, 5), x.count(8), x.put(0, 1, 0, 5), x.count(8),
            x.copy(0, 0, 1, 0, 1), x.count(8), x.sheet(0, 0, -1), x.count(8), x.log(0, 3, 0), x.count(8),
            x.log(0, 0, 2), x.count(8), x.write(0, 3), x.count(8), x.copy(0, 0, 0, 0, 2), x.count(8)};
        int[] want = {-11, 1, -12, 2, -13, 3, -14, 4, -15, 5, -11, 1, -12, 2, -11, 1, -12, 2};
        for (int i = 0; i < got.length; i++) d.is("answer " + i, got[i], want[i]);
        d.same(before, x);
    }

    private static long[] counts(TrueLedger x) {
        long[] counts = new long[9];
        for (int what = 0; what < 9; what++) counts[what] = x.count(what);
        return counts;
    }

    private void count() {
        TrueLedger x = new TrueLedger();
        d.of(35, "0 bytes of all VERSIONS, 1 COUNTERS, 2 EVENTS of all LOGS, 3 SHORT ones, 4 PAID, 5 JUDGMENTS, 6 GROUNDS that "
            + "stand, 7 INTEREST,");
        d.each("at first", counts(x), 0, 0, 0, 0, 0, 0, 8, 1, 0);
        for (int n = 0; n < 120; n++) x.type(3, 's');
        x.type(0, 's');
        for (int c = 0; c < 12; c++) x.counter(0);
        Due.row(x, 0, 0, 1, 2, 3, 4, 5, 6, 7, 0, -1, -1, -1);
        for (int c = 0; c < 12; c++) x.log(c, 0, c == 0 ? 5 : 12);
        for (int c = 0; c < 12; c++) x.claim(c, c == 1 ? 1 : 0, 1);
        for (int n = 0; n < 40; n++) x.pay(n % 12, 0, 1);
        for (int n = 0; n < 16; n++) x.judgment(1, 0);
        for (int g = 0; g < 8; g++) x.ground(g, g == 6);
        x.interest(100);
        d.each("full", counts(x), 121, 12, 5 + 11 * 12, 11, 40, 16, 1, 100, 0);
        d.of(35, "BAD.");
        d.all("what", -2, x.count(-1), x.count(9), x.count(LEAST), x.count(MOST));
    }

    private static long with(long h, long... each) {
        for (long one : each) h = 31 * h + one;
        return h;
    }

    private void digest() {
        TrueLedger x = new TrueLedger();
        d.of(36, "h is 17; h becomes 31 h and each of: count() 0 to 7; of VERSIONS fault(), acts() of LINES 0 to 15;");
        long[] none = new long[16];
        long h = with(17, 0, 0, 0, 0, 0, 0, 8, 1);
        for (int v = 0; v < 4; v++) h = with(with(h, -1), none);
        d.is("a new one", x.digest(), with(h, 0, 0));
        x.lose(0);
        d.is("it does not hang on the FINDING", x.digest(), with(h, 0, 0));
        Due.row(x, 0, 5, 6);
        d.is("nor on SHEETS", x.digest(), with(h, 0, 0));
        Due.text(x, 1, "b1:m0,m1");
        Due.text(x, 3, "b1:m");
        long[] last = new long[16];
        last[15] = 2;
        h = with(17, 12, 0, 0, 0, 0, 0, 8, 1);
        h = with(with(with(with(with(with(with(with(h, -1), none), -1), last), -1), none), 4), none);
        d.is("with texts", x.digest(), with(h, 0, 0));
        d.of(36, "of each COUNTER about() 0 to 8; standing(); owed() to all on DAY 399; as longs that wrap.");
        TrueLedger y = new TrueLedger();
        y.counter(2);
        y.counter(3);
        Due.log(y, 1, 1, -1);
        y.claim(1, -1, 0);
        y.pay(1, 9, 1000);
        y.judgment(0, 0);
        y.tell(0, 2, 50);
        h = with(17, 0, 2, 2, 1, 1, 1, 8, 1);
        for (int v = 0; v < 4; v++) h = with(with(h, -1), none);
        h = with(with(h, 2, 0, 0, 0, 0, 0, 10, 5, 50), 3, 2, 1, -1, 0, 1, 10, 5, 1);
        d.is("with COUNTERS", y.digest(), with(h, 1, 1039));
    }

    private void refusals() {
        d.of(35, "Refusals, the first that fits, in the order told at each act: BAD -2 (a number not as told, no such thing), NULL, "
            + "INDEX, NOT -3, FULL -4, other FINDINGS.");
        TrueLedger x = ofEachType(4);
        x.counter(0);
        for (int i = 0; i < 4; i++) x.put(0, 0, i, -1);
        d.is("log: BAD ahead of NULL", x.log(0, 3, 13), -2);
        d.is("log: NULL ahead of INDEX", x.log(0, 3, 5), -11);
        d.is("log: INDEX ahead of NOT", x.log(0, 0, 5), -12);
        d.is("log: NOT", x.log(0, 0, 4), -3);
        d.is("settling: BAD ahead of NOT", x.claim(0, 50, 50) + x.settling(0, 2), -1);
        d.is("put: CAST ahead of INDEX, as told there", x.put(0, 1, 4, 0), -13);
        d.is("copy: STORE ahead of INDEX, as told there", x.copy(0, 0, 1, 0, 5), -14);
        d.is("sheet: BAD ahead of SIZE", x.sheet(0, 3, -1), -2);
        d.of(35, "They change nothing (FINDINGS but count() 8).");
        String before = Sentences.snapshot(x);
        x.log(0, 0, 4);
        x.sheet(0, 0, 41);
        x.sheet(0, 0, -1);
        d.is("the FINDING", x.count(8), SIZE);
        d.same(before, x);
    }
}
