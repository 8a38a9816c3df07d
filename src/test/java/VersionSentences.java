/** Promises 1 to 10 and the Terms that they show, sentence by sentence: a new object, VERSIONS, RUNS, MENDED. */
final class VersionSentences {
    private static final int SELL = 0, REFUND = 1, KEY = 2, SEND = 3, ANSWER = 4, LOST = 5, TICK = 6, BALANCE = 7;
    private static final int LEAST = Integer.MIN_VALUE, MOST = Integer.MAX_VALUE;
    private static final int L = 0, P = 1, C = 2, MODE = 3, DRAWER = 4, PARTS = 5;
    private static final String LETTERS = "srkdaxtb", SOUND = "s0:c+1;r0:c-1;s1:c+1;r1:c-1";

    private final Sentences d;

    VersionSentences(Sentences d) {
        this.d = d;
    }

    void tell() {
        newObject();
        type();
        wipe();
        fault();
        faultAtTheEnds();
        acts();
        differ();
        states();
        registersKept();
        mixes();
        run();
        runRefused();
        parting();
        event();
        mendedFewest();
        mendedEnds();
    }

    private static TrueLedger with(String... texts) {
        TrueLedger x = new TrueLedger();
        for (int v = 0; v < texts.length; v++) Due.text(x, v, texts[v]);
        return x;
    }

    private static long[] ends(TrueLedger x, int version, int other, int lines, int... row) {
        Due.row(x, 0, row);
        long[] ends = new long[6];
        for (int what = 0; what < 6; what++) ends[what] = x.run(version, other, lines, 0, row.length, what);
        return ends;
    }

    private static long end(TrueLedger x, int what, int... row) {
        return ends(x, 0, 0, 0, row)[what];
    }

    private static int[] times(int n, int event) {
        int[] row = new int[n];
        java.util.Arrays.fill(row, event);
        return row;
    }

    private void newObject() {
        TrueLedger x = new TrueLedger();
        d.of(1, "No COUNTERS");
        d.is("count(1)", x.count(1), 0);
        d.is("about(0, 0)", x.about(0, 0), -1000);
        d.is("order(1, NONE)", x.order(1, -1), -2);
        d.of(1, "VERSIONS that do nothing");
        d.is("bytes", x.count(0), 0);
        for (int v = 0; v < 4; v++) {
            d.is("fault", x.fault(v), -1);
            for (int line = 0; line < 16; line++) d.is("acts", x.acts(v, line), 0);
            d.each("each EVENT once", ends(x, v, v, 0, 0, 1, 2, 3, 4, 5, 6, 7), 0, 0, 0, 0, 0, 0);
        }
        d.of(1, "all SHEETS are LOST");
        TrueLedger y = new TrueLedger();
        d.all("lose", -11, y.lose(0), y.lose(1), y.lose(2), y.lose(3));
    }

    private void type() {
        TrueLedger x = new TrueLedger();
        d.of(2, "VERSIONS 0 .. 3 are");
        d.all("a byte for each", 1, x.type(0, 's'), x.type(1, 's'), x.type(2, 's'), x.type(3, 's'));
        d.all("none beyond", -2, x.type(-1, 's'), x.type(4, 's'), x.type(LEAST, 's'), x.type(MOST, 's'));
        d.of(2, "A byte (0 to 255) comes behind a VERSION");
        d.is("the least", x.type(0, 0), 2);
        d.is("the most", x.type(0, 255), 3);
        d.all("beyond", -2, x.type(0, -1), x.type(0, 256), x.type(0, LEAST), x.type(0, MOST));
        d.is("behind it: s0 goes on", x.type(1, '0'), 2);
        d.is("so far", x.fault(1), 2);
        d.of(2, ": how many.");
        d.is("of this VERSION alone", x.type(1, ':'), 3);
        d.is("of all together", x.count(0), 8);
        d.of(2, "texts of up to 120 bytes:");
        for (int n = 4; n <= 120; n++) d.is("byte " + n, x.type(0, 's'), n);
        d.of(2, "FULL.");
        d.all("one more", -4, x.type(0, 0), x.type(0, 255));
        d.is("another has room", x.type(1, 'l'), 4);
        d.of(2, "BAD;");
        String before = Sentences.snapshot(x);
        d.all("ahead of FULL", -2, x.type(0, 256), x.type(0, -1), x.type(4, 's'));
        x.type(0, 's');
        d.same(before, x);
    }

    private void wipe() {
        TrueLedger x = with("s0:c+1", "", "", "q");
        d.of(3, "A VERSION is empty");
        d.is("wipe", x.wipe(0), 6);
        d.is("its FAULT", x.fault(0), -1);
        d.is("its ACTS", x.acts(0, 0), 0);
        d.is("the first byte again", x.type(0, 'q'), 1);
        d.is("another stays", x.fault(3), 0);
        d.of(3, ": how many bytes it had.");
        d.is("one, with a FAULT", x.wipe(0), 1);
        d.is("none", x.wipe(0), 0);
        d.is("the last VERSION", x.wipe(3), 1);
        for (int n = 0; n < 120; n++) x.type(2, 0);
        d.is("120", x.wipe(2), 120);
        d.is("room again behind FULL", x.type(2, 0), 1);
        d.of(3, "BAD.");
        d.all("no such VERSION", -2, x.wipe(-1), x.wipe(4), x.wipe(LEAST), x.wipe(MOST));
        d.is("nothing has changed", x.count(0), 1);
    }

    private static int faultOf(String text) {
        TrueLedger x = with(text);
        return x.fault(0);
    }

    /** Every byte behind a beginning: with those told it goes on, with all others it cannot. */
    private void goesOnWith(String begun, String with, boolean isWhole) {
        for (int b = 0; b < 256; b++) {
            boolean goesOn = with.indexOf(b) >= 0;
            int due = !goesOn ? begun.length() : isWhole ? -1 : begun.length() + 1;
            d.is("byte " + b + " behind '" + begun + "'", faultOf(begun + (char) b), due);
        }
    }

    private void fault() {
        d.of(4, "(s, r, k, d, a, x, t, b in order)");
        goesOnWith("", LETTERS, false);
        d.of(4, "a letter of an EVENT");
        d.is("without it", faultOf("0:l+1"), 0);
        d.of(4, ", a MODE, : ,");
        goesOnWith("s", "01", false);
        goesOnWith("b1", ":", false);
        d.of(4, "an ACT is a REGISTER (l, p, c),");
        goesOnWith("s0:", "lpcm", false);
        d.of(4, "then + or - or = ,");
        goesOnWith("s0:l", "+-=", false);
        d.of(4, "then a figure or a REGISTER;");
        goesOnWith("s0:p=", "0123456789lpc", true);
        d.of(4, "or m and a MODE.");
        goesOnWith("s0:m", "01", true);
        d.of(4, "ACTS with , between them:");
        goesOnWith("s0:l+1,", "lpcm", false);
        d.of(4, "parts with ; between them:");
        goesOnWith("s0:l+1;", LETTERS, false);
        goesOnWith("s0:l+1,m0;b1:m1;", LETTERS, false);
        d.of(4, "The FAULT is the place of the first byte with which it cannot go on");
        for (String begun : new String[] {"s0:l+1", "s0:m1", "s0:m1,c=c", "s0:m1;b1:p-9"}) {
            for (int b = 0; b < 256; b++) {
                int due = b == ',' || b == ';' ? begun.length() + 1 : begun.length();
                d.is("byte " + b + " behind '" + begun + "'", faultOf(begun + (char) b), due);
            }
        }
        d.is("the first of several", faultOf("s0:q;q"), 3);
        d.is("what follows it may be well", faultOf("qs0:l+1"), 0);
    }

    private void faultAtTheEnds() {
        d.of(4, "(an empty text is well).");
        d.is("an empty text", new TrueLedger().fault(0), -1);
        d.of(4, "The FAULT of a VERSION;");
        String most = "s0:m1" + ",m0".repeat(38);
        d.is("at the last of 120 bytes", faultOf(most + "q"), 119);
        d.is("behind the last of 120 bytes", faultOf(most + ","), 120);
        d.is("where a text ends too early", faultOf("s0"), 2);
        d.is("where ACTS are missing", faultOf("s0:"), 3);
        d.of(4, "NONE.");
        d.is("119 bytes", faultOf(most), -1);
        d.is("120 bytes", faultOf("s0:l+1" + ",m0".repeat(38)), -1);
        d.of(4, "BAD.");
        TrueLedger x = with("q");
        d.all("no such VERSION", -2, x.fault(-1), x.fault(4), x.fault(LEAST), x.fault(MOST));
    }

    private void acts() {
        d.of(5, "How many ACTS a LINE of a VERSION has.");
        TrueLedger x = with("s0:l+1" + ",m0".repeat(38), "b1:m1;k0:c=p,p=0,l=0");
        d.is("the most there can be", x.acts(0, 0), 39);
        d.is("one", x.acts(1, 15), 1);
        d.is("three", x.acts(1, 4), 3);
        d.is("none", x.acts(1, 5), 0);
        d.of(5, "BAD.");
        d.all("no such VERSION", -2, x.acts(-1, 0), x.acts(4, 0), x.acts(LEAST, 0), x.acts(MOST, 0));
        d.all("no such LINE", -2, x.acts(0, -1), x.acts(0, 16), x.acts(0, LEAST), x.acts(0, MOST));
        d.of(5, "A LINE of a VERSION is what it does by one EVENT in one MODE; LINES are numbered 2 EVENT and MODE (0 to 15).");
        for (int line = 0; line < 16; line++) {
            TrueLedger y = with("" + LETTERS.charAt(line / 2) + line % 2 + ":m0,m1");
            for (int other = 0; other < 16; other++) d.is("line " + line, y.acts(0, other), other == line ? 2 : 0);
        }
        d.of(5, "Of parts of one EVENT and MODE the last is so;");
        TrueLedger z = with("s0:l+1,l+1,l+1;b1:m0;s0:p+1;s1:m0,m0");
        d.is("acts", z.acts(0, 0), 1);
        d.each("RUN", ends(z, 0, 0, 0, SELL), 0, 1, 0, 0, 1, 0);
        d.of(5, "without one nothing is done.");
        d.is("acts", z.acts(0, 2), 0);
        d.each("RUN", ends(z, 0, 0, 0, KEY, TICK, REFUND), 0, 0, 0, 0, -1, 0);
        d.of(5, "With a FAULT it is as without parts.");
        z.type(0, ';');
        d.all("acts", 0, z.acts(0, 0), z.acts(0, 1), z.acts(0, 15));
        d.each("RUN", ends(z, 0, 0, 0, SELL), 0, 0, 0, 0, 1, 0);
        d.is("as an empty one", z.differ(0, 1), 0);
        for (char b : "x0:m1".toCharArray()) z.type(0, b);
        d.is("mended by the next bytes", z.acts(0, 0), 1);
    }

    private void differ() {
        d.of(6, "LINES in which two VERSIONS are not told alike, as bits.");
        String all = "", like = "";
        for (int line = 0; line < 16; line++) {
            String part = (line == 0 ? "" : ";") + LETTERS.charAt(line / 2) + line % 2 + ":m";
            all += part + "0";
            like += part + (line % 3 == 0 ? "1" : "0");
        }
        TrueLedger x = with(all, like, all);
        d.is("all sixteen", x.differ(0, 3), 65535);
        d.is("every third", x.differ(0, 1), 0b1001001001001001);
        d.is("the other way", x.differ(1, 0), 0b1001001001001001);
        d.all("none", 0, x.differ(0, 2), x.differ(1, 1), x.differ(3, 3));
        TrueLedger y = with("s0:c+1;r0:c=0;k0:m0;d0:l+1,p+1;b0:c+1", "s0:c+1,m0;r0:c-c;k0:m0;d0:p+1,l+1;b0:c+1,c+1");
        d.is("text for text: what does the same, a beginning, another row", y.differ(0, 1), 1 | 4 | 1 << 6 | 1 << 14);
        TrueLedger z = with("s0:c+1;r0:c-1;k0:c=l;d0:m0;b0:p=9", "b0:p=8;s0:l+1;r0:c+1;k0:c=p;d0:m1", "d0:m0;s0:c+1");
        d.is("each byte of an ACT", z.differ(0, 1), 1 | 4 | 1 << 4 | 1 << 6 | 1 << 14);
        d.is("wherever the part stands in the text", z.differ(0, 2), 4 | 1 << 4 | 1 << 14);
        d.of(6, "BAD.");
        d.all("the first", -2, x.differ(-1, 0), x.differ(4, 0), x.differ(LEAST, 0), x.differ(MOST, 0));
        d.all("the second", -2, x.differ(0, -1), x.differ(0, 4), x.differ(0, LEAST), x.differ(0, MOST));
    }

    private void states() {
        TrueLedger x = with("s0:l+1,p+1");
        d.of(7, "A STATE has three REGISTERS l, p, c, a MODE (0, 1) and THE DRAWER; it begins with all 0.");
        d.each("no EVENT", ends(x, 0, 0, 0), 0, 0, 0, 0, 0, 0);
        d.of(7, "So SELL in MODE 0: s0:l+1,p+1 .");
        d.each("one SELL", ends(x, 0, 0, 0, SELL), 1, 1, 0, 0, 1, 0);
        d.of(7, "SELL puts a coin into THE DRAWER, REFUND takes one out (it may be below 0);");
        d.is("forty SELL", end(x, DRAWER, times(40, SELL)), 40);
        d.is("forty REFUND", end(x, DRAWER, times(40, REFUND)), -40);
        d.is("one of each", end(x, DRAWER, REFUND, SELL), 0);
        d.of(7, "no other EVENT does, and no program.");
        TrueLedger y = with("k0:c+9,l+9,p+9,m1;d1:c-9;a1:m0;x0:c=1;t0:l=1;b0:c+c");
        d.is("the others", end(y, DRAWER, KEY, SEND, ANSWER, LOST, TICK, BALANCE), 0);
        d.of(7, "An EVENT goes by the LINE of the MODE that is ahead of it.");
        TrueLedger z = with("s0:m1,c+1;s1:m0,c+9,m1,m0,l+1");
        d.each("behind m its ACTS go on", ends(z, 0, 0, 0, SELL), 0, 0, 1, 1, 1, 0);
        d.each("the next goes by MODE 1", ends(z, 0, 0, 0, SELL, SELL), 1, 0, 10, 0, 2, 0);
        d.of(7, "RUN: a row of EVENTS under a MIX, from the beginning.");
        d.each("nothing stays of an earlier one", ends(z, 0, 0, 0, SELL), 0, 0, 1, 1, 1, 0);
    }

    private void registersKept() {
        d.of(7, "ACTS are done one after the other, each REGISTER kept from -99 to 99 (what would be beyond becomes that).");
        for (int r = 0; r < 3; r++) {
            String it = "lpc".substring(r, r + 1), other = "pcl".substring(r, r + 1);
            // s: to 99 and not beyond; k: 1 more, t: 1 less, a: twice as much; r, d, x: the same below 0.
            String up = "s0:z+z,z+9,z+9,z+9;k0:z+1;t0:z-1;a0:z+z;b0:z=9,z+z,z+z".replace("z", it);
            TrueLedger x = with(up + ";x0:z=y,z-y,y-z,z-y".replace("z", other).replace("y", it));
            d.is("36, doubled, and 27", end(x, r, BALANCE, SELL), 99);
            d.is("1 more", end(x, r, BALANCE, SELL, KEY), 99);
            d.is("twice", end(x, r, BALANCE, SELL, ANSWER), 99);
            d.is("each ACT is kept, not the end alone", end(x, r, BALANCE, SELL, KEY, TICK), 98);
            d.is("99 less 0", end(x, r, BALANCE, SELL, LOST), 99);
            d.is("by another REGISTER, to -99", end(x, (r + 1) % 3, BALANCE, SELL, LOST), -99);
            TrueLedger y = with("s0:z+z,z-9,z-9,z-9;k0:z-1;t0:z+1;a0:z+z;b0:z-9,z+z,z+z".replace("z", it));
            d.is("-36, doubled, and -27", end(y, r, BALANCE, SELL), -99);
            d.is("1 less", end(y, r, BALANCE, SELL, KEY), -99);
            d.is("twice", end(y, r, BALANCE, SELL, ANSWER), -99);
            d.is("each ACT is kept, not the end alone", end(y, r, BALANCE, SELL, KEY, TICK), -98);
        }
    }

    private void mixes() {
        d.of(7, "A MIX of two VERSIONS by LINES (bits 0 to 15): these as in the second, the others as in the first.");
        String one = "";
        for (int line = 0; line < 16; line++) {
            one += (line == 0 ? "" : ";") + LETTERS.charAt(line / 2) + line % 2 + (line == 4 ? ":c+1,m1" : ":c+1");
        }
        TrueLedger x = with(one, one.replace("c+1", "c+2"));
        for (int line = 0; line < 16; line++) {
            // MODE 1 is reached by a KEY, that goes by LINE 4.
            int[] row = line % 2 == 0 ? new int[] {line / 2} : new int[] {KEY, line / 2};
            Due.row(x, 0, row);
            d.is("that LINE alone", x.run(0, 1, 1 << line, 0, row.length, C), row.length + 1);
            d.is("all but it", x.run(0, 1, 65535 & ~(1 << line), 0, row.length, C), 2 * row.length - 1);
        }
        d.is("none", x.run(0, 1, 0, 0, 2, C), 2);
        d.is("all", x.run(0, 1, 65535, 0, 2, C), 4);
    }

    private void run() {
        TrueLedger x = with("s0:l+1,p+2,c+3,m1");
        Due.row(x, 1, SELL, TICK, 8);
        d.of(7, ": 0 l, 1 p, 2 c, 3 MODE, 4 THE DRAWER, 5 whether it PARTS.");
        d.each("one SELL", ends(x, 0, 0, 0, SELL), 1, 2, 3, 1, 1, 0);
        d.each("and a BALANCE", ends(x, 0, 0, 0, SELL, BALANCE), 1, 2, 3, 1, 1, 1);
        d.of(7, "It PARTS, if its last EVENT is BALANCE, and c is another than THE DRAWER behind it.");
        TrueLedger y = with("s0:c+1;b0:c+1;k0:m1;t0:c-1");
        d.is("no EVENT", end(y, PARTS), 0);
        d.is("a BALANCE that moves c", end(y, PARTS, BALANCE), 1);
        d.is("a BALANCE that makes it even", end(y, PARTS, TICK, BALANCE), 0);
        d.is("even behind a SELL", end(y, PARTS, SELL, TICK, BALANCE), 0);
        d.is("no BALANCE last", end(y, PARTS, BALANCE, TICK, SELL, REFUND), 0);
        d.is("below 0", end(y, PARTS, KEY, REFUND, BALANCE), 1);
        d.is("below 0, even", end(y, PARTS, REFUND, TICK, TICK, BALANCE), 0);
        d.of(7, "RUN of the first n (0 to 40) items of a SHEET (EVENTS)");
        d.is("none", x.run(0, 0, 0, 1, 0, DRAWER), 0);
        d.is("two of three", x.run(0, 0, 0, 1, 2, DRAWER), 1);
        d.is("none of a SHEET without items", x.sheet(2, 0, 0) + x.run(0, 0, 0, 2, 0, PARTS), 0);
        for (int type = 0; type < 3; type++) {
            x.sheet(0, type, 40);
            x.put(0, type, 39, BALANCE);
            d.is("forty", x.run(0, 0, 0, 0, 40, DRAWER), 39);
        }
    }

    private void runRefused() {
        TrueLedger x = new TrueLedger();
        Due.row(x, 0, SELL, 8, SELL);
        String before = Sentences.snapshot(x);
        d.of(7, "so are NULL, INDEX (count() 8 tells),");
        d.is("LOST, though none are asked of", x.run(0, 0, 0, 1, 0, L), -1000);
        d.is("NULL", x.count(8), 1);
        d.is("not so many, ahead of what is no EVENT", x.run(0, 0, 0, 0, 4, L), -1000);
        d.is("INDEX", x.count(8), 2);
        d.is("NULL ahead of INDEX", x.run(0, 0, 0, 1, 40, L), -1000);
        d.is("NULL", x.count(8), 1);
        d.of(7, "BAD: -1000;");
        x.run(0, 0, 0, 0, 40, L);
        for (int far : new int[] {LEAST, -1, 4, MOST}) {
            d.all("VERSIONS, SHEET", -1000, x.run(far, 0, 0, 1, 0, L), x.run(0, far, 0, 1, 0, L), x.run(0, 0, 0, far, 0, L));
        }
        d.all("LINES", -1000, x.run(0, 0, -1, 1, 0, L), x.run(0, 0, 65536, 1, 0, L), x.run(0, 0, LEAST, 1, 0, L));
        d.all("n", -1000, x.run(0, 0, 0, 1, -1, L), x.run(0, 0, 0, 1, 41, L), x.run(0, 0, 0, 1, MOST, L));
        d.all("what", -1000, x.run(0, 0, 0, 1, 0, -1), x.run(0, 0, 0, 1, 0, 6), x.run(0, 0, 0, 1, 0, MOST));
        d.is("BAD is ahead of NULL: it is no FINDING", x.count(8), 2);
        d.of(7, "an item that is no EVENT.");
        d.is("ahead of it", x.run(0, 0, 0, 0, 1, DRAWER), 1);
        d.all("with it", -1000, x.run(0, 0, 0, 0, 2, L), x.run(0, 0, 0, 0, 3, PARTS));
        d.is("it is no FINDING", x.count(8), 2);
        d.same(before, x);
        for (int no : new int[] {-1, 8, LEAST, MOST}) {
            x.put(0, 2, 1, no);
            d.is("item " + no, x.run(0, 0, 0, 0, 2, DRAWER), -1000);
        }
        for (int event = 0; event < 8; event++) {
            x.put(0, 2, 1, event);
            d.is("EVENT " + event, x.run(0, 0, 0, 0, 2, DRAWER), event == SELL ? 2 : event == REFUND ? 0 : 1);
        }
    }

    private void parts(TrueLedger x, int... row) {
        d.is("parting", x.parting(0, 0, 0), row.length == 0 ? -1 : row.length);
        for (int i = 0; i < 6; i++) d.is("event " + i, x.event(0, 0, 0, i), i < row.length ? row[i] : -1);
    }

    private void parting() {
        d.of(8, "LEAST PARTING: the shortest row (1 to 5 EVENTS) that PARTS,");
        parts(with("b0:c+1"), BALANCE);
        parts(new TrueLedger(), SELL, BALANCE);
        parts(with(SOUND + ";k0:l=1;t0:c+l"), KEY, TICK, BALANCE);
        parts(with(SOUND + ";k0:l=1;d0:p=l;t0:c+p"), KEY, SEND, TICK, BALANCE);
        parts(with(SOUND + ";k0:m1;x1:l=1;d1:p=l;t1:c+p"), KEY, LOST, SEND, TICK, BALANCE);
        parts(with("s0:c+1,m1;s1:c+2;r0:c-1;r1:c-1;t0:c+1"), TICK, BALANCE);
        TrueLedger six = with(SOUND + ";k0:m1;x1:l=1;d1:p=l;t1:m0;a0:c+p");
        parts(six);
        d.is("a row of six does PART", end(six, PARTS, KEY, LOST, SEND, TICK, ANSWER, BALANCE), 1);
        // No two of its rows of up to three EVENTS end alike, and BALANCE shows of l only what is above 90: the last row of all.
        TrueLedger allUnlike = with("s0:c+1,l-6,p-l,p+8;r0:c-1,l+7,p-l,p+6;k0:p-l,l+5;d0:p-l,l-4,p-5;a0:p-l,l+9,l+4,p+1",
            "x0:p-l,l+2,p+7;t0:l+9,l+8,p-l,p-1;b0:c+l,c+9,c-9,c-l,l+9,l+9,l+6,p+3");
        int fromSecond = 1 << 2 * LOST | 1 << 2 * TICK | 1 << 2 * BALANCE;
        d.is("the last row of five", allUnlike.parting(0, 1, fromSecond), 5);
        for (int i = 0; i < 5; i++) d.is("its EVENT " + i, allUnlike.event(0, 1, fromSecond, i), BALANCE);
        d.of(8, "of like ones the least (the first EVENT compared first).");
        parts(with(SOUND + ";k0:l=1;t0:c+l;d0:p=1;x0:c+p"), KEY, TICK, BALANCE);
        parts(with(SOUND + ";x0:l=1;t0:c+l;d0:p=1;a0:c+p"), SEND, ANSWER, BALANCE);
        parts(with("s0:c+1;t0:c+1"), REFUND, BALANCE);
        d.of(8, "LEAST PARTING of a MIX: how many EVENTS;");
        TrueLedger x = with(SOUND, "t0:c+1;b0:c+1");
        d.is("of the second's LINE 14", x.parting(0, 1, 1 << 14), 1);
        d.is("of its LINE 12", x.parting(0, 1, 1 << 12), 2);
        d.is("all of its LINES", x.parting(0, 1, 65535), 1);
        // Rows that differ by MIX, so that none can be taken for another's.
        TrueLedger y = with("", "s0:c+1", "s0:c+1;r0:c-1", "b0:c+1");
        int[][] rows = {{0, 1, 0, SELL}, {0, 1, 1, REFUND}, {1, 0, 0, REFUND}, {1, 0, 1, SELL}, {0, 2, 1, REFUND}, {0, 0, 1, SELL},
            {0, 2, 1, REFUND}, {0, 2, 0, SELL}, {0, 2, 5, -1}, {2, 0, 0, -1}, {2, 0, 4, REFUND}, {2, 0, 1, SELL}, {0, 3, 0, SELL}, {3, 0, 0, BALANCE}, {2, 1, 1, -1},
            {1, 2, 4, -1}, {2, 3, 1 << 14, BALANCE}, {0, 3, 1 << 14, BALANCE}};
        for (int[] a : rows) {
            int length = a[3] == -1 ? -1 : a[3] == BALANCE ? 1 : 2;
            d.is("of a MIX by " + a[2], y.parting(a[0], a[1], a[2]), length);
            for (int[] b : rows) d.is("its first EVENT", y.event(b[0], b[1], b[2], 0), b[3]);
        }
        d.of(8, "NONE.");
        d.is("the first alone", x.parting(0, 1, 0), -1);
        d.is("LINES that are told alike", x.parting(0, 1, 1 << 15), -1);
        d.of(8, "BAD.");
        d.all("the first", -2, x.parting(-1, 0, 0), x.parting(4, 0, 0), x.parting(LEAST, 0, 0), x.parting(MOST, 0, 0));
        d.all("the second", -2, x.parting(0, -1, 0), x.parting(0, 4, 0), x.parting(0, LEAST, 0), x.parting(0, MOST, 0));
        d.all("LINES", -2, x.parting(0, 0, -1), x.parting(0, 0, 65536), x.parting(0, 0, LEAST), x.parting(0, 0, MOST));
    }

    private void event() {
        TrueLedger x = with("s0:c+1", SOUND);
        d.of(9, "EVENT i of it;");
        d.is("the first", x.event(0, 0, 0, 0), REFUND);
        d.is("the last", x.event(0, 0, 0, 1), BALANCE);
        d.is("of a MIX", x.event(0, 1, 1, 0), REFUND);
        d.is("of the next MIX", x.event(0, 2, 1, 0), SELL);
        d.is("of the first again", x.event(0, 0, 0, 0), REFUND);
        d.is("of the same, behind MENDED", x.mended(0, 1) + x.event(0, 0, 0, 0), 4 + REFUND);
        x.wipe(0);
        d.is("of a text that has changed", x.event(0, 0, 0, 0), SELL);
        for (char b : "b0:c+1".toCharArray()) x.type(0, b);
        d.is("of a text that has grown", x.event(0, 0, 0, 0), BALANCE);
        x.wipe(0);
        d.of(9, "NONE: it is not so long, or there is none.");
        d.all("not so long", -1, x.event(0, 0, 0, 2), x.event(0, 0, 0, 5), x.event(0, 0, 0, MOST));
        d.all("there is none", -1, x.event(1, 1, 0, 0), x.event(1, 1, 0, MOST), x.event(0, 1, 65535, 0));
        d.of(9, "BAD: also i below 0.");
        d.all("i", -2, x.event(0, 0, 0, -1), x.event(0, 0, 0, LEAST), x.event(1, 1, 0, -1));
        d.all("VERSIONS", -2, x.event(-1, 0, 0, 0), x.event(4, 0, 0, 0), x.event(0, -1, 0, 0), x.event(0, 4, 0, 0));
        d.all("LINES", -2, x.event(0, 0, -1, 0), x.event(0, 0, 65536, 0), x.event(0, 0, LEAST, MOST));
    }

    private void mendedFewest() {
        d.of(10, "MENDED: the fewest LINES of another VERSION to be taken into one,");
        TrueLedger x = with(SOUND + ";k0:l=1;d0:l=1;t0:c+l", SOUND);
        d.is("one above rather than two below", x.mended(0, 1), 1 << 12);
        TrueLedger y = with(SOUND + ";t0:c+1;b0:c+1", SOUND, "r0:c-1");
        d.is("two", y.mended(0, 1), 1 << 12 | 1 << 14);
        d.is("one", y.mended(2, 1), 1);
        TrueLedger modes = with("s0:c+2;r0:c-2;k0:m1;s1:c+2;r1:c-2;k1:c+1", "s0:c+1;r0:c-1;s1:c+1;r1:c-1;k1:m0");
        d.is("three, that keep MODE 1 away", modes.mended(0, 1), 1 | 1 << 2 | 1 << 4);
        TrueLedger whole = with("s0:c+2;r0:c-2;d0:c+1;a0:c+1;x0:c+1;t0:c+1;k0:c+1;b0:c+1", "s0:c+1;r0:c-1");
        d.is("all of eight", whole.mended(0, 1), 0b0101010101010101);
        d.of(10, "MENDED of a VERSION by another, as bits;");
        d.is("none to be taken", y.mended(1, 0), 0);
        d.is("by itself, that does not PART", y.mended(1, 1), 0);
        d.of(10, "of those in which they are not told alike (text for text of ACTS;");
        TrueLedger z = with("s0:c+2;r0:c-1;b0:m0", "s0:c+1;r0:c-1;b0:m0,m0");
        d.is("LINE 0, and no other", z.mended(0, 1), 1);
        d.of(10, "so that no row of up to 4 EVENTS PARTS;");
        TrueLedger four = with(SOUND + ";k0:l=1;d0:p=l;t0:c+p", SOUND);
        d.is("four are asked of", four.mended(0, 1), 1 << 4);
        TrueLedger five = with(SOUND + ";k0:m1;x1:l=1;d1:p=l;t1:c+p", SOUND);
        d.is("five are not", five.mended(0, 1), 0);
        d.is("though they PART", five.parting(0, 0, 0), 5);
        d.of(10, "of like ones the least as bits;");
        TrueLedger like = with(SOUND + ";t0:c+l;x0:p=1;d0:l=p", SOUND);
        d.is("SEND, LOST or TICK", like.mended(0, 1), 1 << 6);
    }

    private void mendedEnds() {
        d.of(10, "8 at most: FULL),");
        String eight = "s0:m0;r0:m0;k0:m0;d0:m0;a0:m0;x0:m0;t0:m0;b0:m0";
        TrueLedger x = with(eight, "", "s0:c+1;r0:c-1", eight + ";s1:m0");
        d.is("eight", x.mended(0, 2), 5);
        d.is("eight that do not do", x.mended(0, 1), -1);
        d.is("eight, of which none need be taken", x.mended(2, 0), 0);
        d.of(10, "FULL.");
        d.is("nine", x.mended(3, 2), -4);
        d.is("nine that would not do", x.mended(3, 1), -4);
        d.is("nine, though none need be taken", x.mended(2, 3), -4);
        d.of(10, "NONE: not even all of them do.");
        d.is("both PART", x.mended(1, 0), -1);
        d.is("by itself, that PARTS", x.mended(1, 1), -1);
        d.of(10, "NONE. BAD;");
        d.all("the first", -2, x.mended(-1, 0), x.mended(4, 0), x.mended(LEAST, 0), x.mended(MOST, 0));
        d.all("the second", -2, x.mended(0, -1), x.mended(0, 4), x.mended(0, LEAST), x.mended(0, MOST));
    }
}
