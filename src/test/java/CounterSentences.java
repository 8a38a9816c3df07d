/** Promises 11 to 20 and the Terms that they show, sentence by sentence: COUNTERS, their LOGS, FILLS, SETTLING, LIKE. */
final class CounterSentences {
    private static final int SELL = 0, REFUND = 1, KEY = 2, SEND = 3, ANSWER = 4, LOST = 5, TICK = 6, BALANCE = 7, GAP = -1;
    private static final int LEAST = Integer.MIN_VALUE, MOST = Integer.MAX_VALUE;
    private static final String SOUND = "s0:c+1;r0:c-1;s1:c+1;r1:c-1";

    private final Sentences d;

    CounterSentences(Sentences d) {
        this.d = d;
    }

    void tell() {
        counter();
        log();
        logRefused();
        claim();
        about();
        tells();
        logged();
        fills();
        byAHand();
        fromAfar();
        causes();
        settling();
        settlingRefused();
        like();
        likeRefused();
    }

    /** A COUNTER of VERSION 0, whose text and LOG are told. */
    private static TrueLedger with(String text, int... log) {
        TrueLedger x = new TrueLedger();
        Due.text(x, 0, text);
        x.counter(0);
        Due.log(x, 0, log);
        return x;
    }

    private void counter() {
        TrueLedger x = new TrueLedger();
        d.of(11, "COUNTERS 0 .. 11 (12 at most) run a VERSION each,");
        for (int c = 0; c < 12; c++) d.is("counter " + c, x.counter(3 - c % 4), c);
        for (int c = 0; c < 12; c++) d.is("its VERSION", x.about(c, 0), 3 - c % 4);
        d.all("there are no others", -1000, x.about(-1, 0), x.about(12, 0), x.about(LEAST, 0), x.about(MOST, 0));
        d.of(11, "FULL.");
        String before = Sentences.snapshot(x);
        d.all("a thirteenth", -4, x.counter(0), x.counter(3));
        d.of(11, "BAD;");
        d.all("ahead of FULL", -2, x.counter(-1), x.counter(4), x.counter(LEAST), x.counter(MOST));
        d.same(before, x);
        TrueLedger y = new TrueLedger();
        d.all("no such VERSION", -2, y.counter(-1), y.counter(4));
        d.of(11, "A COUNTER more, that runs a VERSION: its number.");
        d.is("the first", y.counter(3), 0);
        d.is("how many", y.count(1), 1);
        d.is("not so one that is to come", y.about(1, 0), -1000);
    }

    private void log() {
        TrueLedger x = new TrueLedger();
        x.counter(0);
        d.of(12, "and have a LOG: up to 12 EVENTS, some of them LOST from it (3 at most are asked of),");
        d.is("at first", x.about(0, 1), 0);
        Due.row(x, 0, 0, 1, 2, 3, 4, 5, 6, 7, GAP, 0, GAP, GAP, GAP);
        d.is("twelve, three of them LOST", x.log(0, 0, 12), 0);
        for (int i = 0; i < 12; i++) d.is("item " + i, x.logged(0, i), i < 8 ? i : i == 9 ? 0 : -1);
        d.is("a thirteenth", x.log(0, 0, 13), -2);
        d.of(12, ": how many EVENTS it had.");
        d.is("twelve, with those that are LOST", x.log(0, 0, 9), 12);
        d.is("nine", x.log(0, 0, 0), 9);
        d.is("none", x.log(0, 0, 1), 0);
        d.of(12, "Its LOG becomes the first n (0 to 12) items of a SHEET");
        d.is("one", x.about(0, 1), 1);
        d.is("nothing stays of the earlier one", x.logged(0, 1), -2);
        Due.row(x, 0, BALANCE, GAP, GAP, GAP, GAP, GAP);
        d.is("what is LOST behind n is not asked of", x.log(0, 0, 4), 1);
        d.is("three are LOST", x.about(0, 2), 3);
        x.put(0, 2, 0, TICK);
        d.is("it stays, whatever becomes of the SHEET", x.logged(0, 0), BALANCE);
        x.sheet(1, 0, 0);
        d.is("of a SHEET without items", x.log(0, 1, 0), 4);
        d.of(12, "(others than EVENTS: LOST)");
        int[][] others = {{-1, 8, 127}, {-128, 255, 9}, {32767, -32768, 264}, {LEAST, MOST, 256}};
        int[] types = {0, 0, 1, 2};
        for (int k = 0; k < 4; k++) {
            x.sheet(2, types[k], 3);
            for (int i = 0; i < 3; i++) x.put(2, types[k], i, others[k][i]);
            x.log(0, 2, 3);
            d.all("such as " + others[k][0], -1, x.logged(0, 0), x.logged(0, 1), x.logged(0, 2));
            d.is("how many", x.about(0, 2), 3);
        }
        x.sheet(2, 0, 1);
        x.put(2, 0, 0, 256 + TICK);
        x.log(0, 2, 1);
        d.is("a byte that is one", x.logged(0, 0), TICK);
    }

    private void logRefused() {
        TrueLedger x = with("", KEY, GAP);
        Due.row(x, 0, GAP, 8, GAP, 8);
        String before = Sentences.snapshot(x);
        d.of(12, "NULL;");
        d.is("a LOST SHEET", x.log(0, 1, 0), -11);
        d.is("its number", x.count(8), 1);
        d.is("ahead of INDEX", x.log(0, 1, 12), -11);
        d.of(12, "INDEX;");
        d.is("not so many, ahead of NOT", x.log(0, 0, 5), -12);
        d.is("its number", x.count(8), 2);
        d.of(12, "BAD;");
        d.all("COUNTER", -2, x.log(-1, 1, 0), x.log(1, 1, 0), x.log(LEAST, 1, 0), x.log(MOST, 1, 0));
        d.all("SHEET", -2, x.log(0, -1, 0), x.log(0, 4, 0), x.log(0, LEAST, 0), x.log(0, MOST, 0));
        d.all("n", -2, x.log(0, 1, -1), x.log(0, 1, 13), x.log(0, 1, LEAST), x.log(0, 1, MOST));
        d.is("ahead of NULL: it is no FINDING", x.count(8), 2);
        d.of(12, "NOT: more than 3 are LOST.");
        d.is("four", x.log(0, 0, 4), -3);
        d.is("it is no FINDING", x.count(8), 2);
        d.same(before, x);
        d.is("three", x.log(0, 0, 3), 2);
    }

    private void claim() {
        TrueLedger x = with("");
        d.of(13, "and a CLAIM: what THE DRAWER held at its end, and what the ledger (c) said.");
        d.is("claim", x.claim(0, 2, -3), 1);
        d.is("THE DRAWER", x.about(0, 3), 2);
        d.is("the ledger", x.about(0, 4), -3);
        d.of(13, "Its CLAIM (-99 to 99 each; 0, 0 at first): 1.");
        x.counter(0);
        d.all("at first", 0, x.about(1, 3), x.about(1, 4));
        d.all("the least and the most", 1, x.claim(0, 99, 99), x.claim(0, 99, -99), x.claim(0, -99, -99), x.claim(0, -99, 99));
        d.is("THE DRAWER", x.about(0, 3), -99);
        d.is("the ledger", x.about(0, 4), 99);
        d.all("another's stays", 0, x.about(1, 3), x.about(1, 4));
        String before = Sentences.snapshot(x);
        d.of(13, "BAD.");
        d.all("THE DRAWER", -2, x.claim(0, -100, 0), x.claim(0, 100, 0), x.claim(0, LEAST, 0), x.claim(0, MOST, 0));
        d.all("the ledger", -2, x.claim(0, 0, -100), x.claim(0, 0, 100), x.claim(0, 0, LEAST), x.claim(0, 0, MOST));
        d.all("COUNTER", -2, x.claim(-1, 0, 0), x.claim(2, 0, 0), x.claim(LEAST, 0, 0), x.claim(MOST, 0, 0));
        d.same(before, x);
    }

    private static long[] aboutAll(TrueLedger x, int counter) {
        long[] all = new long[9];
        for (int what = 0; what < 9; what++) all[what] = x.about(counter, what);
        return all;
    }

    private void about() {
        TrueLedger x = new TrueLedger();
        x.counter(0);
        x.counter(3);
        d.of(14, "Of a COUNTER: 0 VERSION, 1 EVENTS of its LOG, 2 LOST ones, 3 THE DRAWER as claimed, 4 the ledger, "
            + "5 whether it is SHORT, 6 what a page costs, 7 days, 8 WEIGHT.");
        d.each("at first", aboutAll(x, 1), 3, 0, 0, 0, 0, 0, 10, 5, 1);
        Due.log(x, 1, GAP, SELL, GAP);
        x.claim(1, -4, 6);
        x.tell(1, 0, 7);
        x.tell(1, 1, 8);
        x.tell(1, 2, 9);
        d.each("then", aboutAll(x, 1), 3, 3, 2, -4, 6, 1, 7, 8, 9);
        d.each("the other", aboutAll(x, 0), 0, 0, 0, 0, 0, 0, 10, 5, 1);
        d.of(14, "SHORT is a CLAIM by which the ledger is above THE DRAWER.");
        int[][] claims = {{0, 0, 0}, {0, 1, 1}, {1, 0, 0}, {-99, -99, 0}, {99, 98, 0}, {98, 99, 1}, {-1, 0, 1}, {99, 99, 0}};
        for (int[] a : claims) {
            x.claim(0, a[0], a[1]);
            d.is("of " + a[0] + ", " + a[1], x.about(0, 5), a[2]);
        }
        d.of(14, "BAD: -1000.");
        d.all("COUNTER", -1000, x.about(-1, 0), x.about(2, 0), x.about(LEAST, 0), x.about(MOST, 0));
        d.all("what", -1000, x.about(0, -1), x.about(0, 9), x.about(0, LEAST), x.about(0, MOST));
    }

    private void tells() {
        TrueLedger x = with("");
        d.of(15, "What a page costs (what = 0), days (1), WEIGHT (2): what it was.");
        d.is("page", x.tell(0, 0, 11), 10);
        d.is("days", x.tell(0, 1, 12), 5);
        d.is("WEIGHT", x.tell(0, 2, 13), 1);
        d.each("each its own", new long[] {x.about(0, 6), x.about(0, 7), x.about(0, 8)}, 11, 12, 13);
        d.of(15, "PAGES: to read an EVENT that is LOST costs so much (told for each COUNTER, 0 to 99; 10 at first).");
        x.counter(0);
        d.is("at first", x.tell(1, 0, 0), 10);
        d.is("the least", x.tell(1, 0, 99), 0);
        d.is("the most", x.tell(1, 0, 50), 99);
        d.is("of another", x.about(0, 6), 11);
        d.of(15, "LOOKING at a COUNTER takes so many days (told, 1 to 50; 5 at first),");
        d.is("at first", x.tell(1, 1, 1), 5);
        d.is("the least", x.tell(1, 1, 50), 1);
        d.is("the most", x.tell(1, 1, 20), 50);
        d.of(15, "and each day until it is looked at to its end costs its WEIGHT (0 to 50; 1 at first).");
        d.is("at first", x.tell(1, 2, 0), 1);
        d.is("the least", x.tell(1, 2, 50), 0);
        d.is("the most", x.tell(1, 2, 3), 50);
        d.is("20 days of it", x.order(2, -1), 60);
        String before = Sentences.snapshot(x);
        d.of(15, "BAD.");
        d.all("page", -2, x.tell(0, 0, -1), x.tell(0, 0, 100), x.tell(0, 0, LEAST), x.tell(0, 0, MOST));
        d.all("days", -2, x.tell(0, 1, 0), x.tell(0, 1, 51), x.tell(0, 1, -1), x.tell(0, 1, MOST));
        d.all("WEIGHT", -2, x.tell(0, 2, -1), x.tell(0, 2, 51), x.tell(0, 2, LEAST), x.tell(0, 2, MOST));
        d.all("what", -2, x.tell(0, -1, 5), x.tell(0, 3, 5), x.tell(0, LEAST, 5), x.tell(0, MOST, 5));
        d.all("COUNTER", -2, x.tell(-1, 0, 5), x.tell(2, 0, 5), x.tell(LEAST, 1, 5), x.tell(MOST, 2, 5));
        d.same(before, x);
    }

    private void logged() {
        TrueLedger x = with("", 0, 1, 2, 3, GAP, 5, 6, 7, 4, 9, 1, 0);
        d.of(16, "EVENT i of its LOG;");
        d.each("the first, the eighth, the last", new long[] {x.logged(0, 0), x.logged(0, 7), x.logged(0, 11)}, 0, 7, 0);
        d.of(16, "NONE: LOST.");
        d.all("of -1, of 9", -1, x.logged(0, 4), x.logged(0, 9));
        d.of(16, "BAD.");
        d.all("i", -2, x.logged(0, -1), x.logged(0, 12), x.logged(0, LEAST), x.logged(0, MOST));
        d.all("COUNTER", -2, x.logged(-1, 0), x.logged(1, 0), x.logged(LEAST, 0), x.logged(MOST, 0));
        Due.log(x, 0, 7, 7);
        d.is("behind the end of a shorter LOG", x.logged(0, 2), -2);
        x.counter(0);
        d.is("an empty LOG", x.logged(1, 0), -2);
    }

    private static long[] fillsOf(TrueLedger x, int drawer, int ledger) {
        x.claim(0, drawer, ledger);
        return new long[] {x.fills(0, 0), x.fills(0, 1), x.fills(0, 2), x.fills(0, 3)};
    }

    private void fills() {
        d.of(17, "FILLS are all ways to give EVENTS to what is LOST.");
        d.is("an empty LOG", with("").fills(0, 0), 1);
        d.is("none LOST", with("", 0, 1, 2, 3, 4, 5, 6, 7, 0, 1, 2, 3).fills(0, 0), 1);
        d.is("one", with("", GAP).fills(0, 0), 8);
        d.is("two", with("", GAP, 3, GAP).fills(0, 0), 64);
        d.is("three of twelve", with("", GAP, 1, 2, 3, 4, GAP, 6, 7, 0, 1, 2, GAP).fills(0, 0), 512);
        d.of(17, "How many FILLS there are (what = 0), CLEAR ones (1), such BY A HAND (2), FROM AFAR (3).");
        d.each("SELL and a gap, 1 and 2", fillsOf(with(SOUND, SELL, GAP), 1, 2), 8, 0, 1, 6);
        d.of(17, "A FILL is CLEAR, if the RUN of the LOG so filled ends just with what was claimed of both.");
        TrueLedger x = with(SOUND, SELL, GAP);
        d.each("both", fillsOf(x, 2, 2), 8, 1, 0, 0);
        d.each("THE DRAWER alone", fillsOf(x, 2, 6), 8, 0, 0, 0);
        d.each("the ledger alone", fillsOf(x, 4, 2), 8, 0, 0, 0);
        d.each("with a refund", fillsOf(x, 0, 0), 8, 1, 0, 0);
        d.each("below 0", fillsOf(with(SOUND, REFUND, REFUND, GAP), -3, -3), 8, 1, 0, 0);
        d.each("an empty LOG", fillsOf(with(SOUND), 0, 0), 1, 1, 0, 0);
        // In MODE 0 four EVENTS do alike, in MODE 1 they do not.
        TrueLedger modes = with("k0:m1;d0:c+9;a0:c+9;x0:c+9;t0:c+9;x1:c+5;t1:c+9", KEY, GAP);
        d.each("MODE 1: TICK alone", fillsOf(modes, 0, 9), 8, 1, 0, 0);
        d.each("MODE 1: LOST alone", fillsOf(modes, 0, 5), 8, 1, 0, 0);
        d.each("MODE 1: KEY, SEND, ANSWER, BALANCE", fillsOf(modes, 0, 0), 8, 4, 2, 0);
        Due.log(modes, 0, GAP);
        d.each("MODE 0: SEND, ANSWER, LOST, TICK", fillsOf(modes, 0, 9), 8, 4, 0, 0);
        d.of(17, "(One FILL may be several of these.)");
        d.each("c is set anew: CLEAR and FROM AFAR", fillsOf(with("k0:c=0", KEY), 0, 0), 1, 1, 0, 1);
        d.of(17, "BAD.");
        d.all("what", -2, x.fills(0, -1), x.fills(0, 4), x.fills(0, LEAST), x.fills(0, MOST));
        d.all("COUNTER", -2, x.fills(-1, 0), x.fills(1, 0), x.fills(LEAST, 0), x.fills(MOST, 0));
    }

    private void byAHand() {
        d.of(17, "It is so BY A HAND, if it does with one coin more or less taken from or put into THE DRAWER behind some EVENT "
            + "(or ahead of all);");
        TrueLedger x = with(SOUND, SELL, SELL);
        d.each("one less", fillsOf(x, 1, 2), 1, 0, 1, 0);
        d.each("one more", fillsOf(x, 3, 2), 1, 0, 1, 0);
        d.each("two less", fillsOf(x, 0, 2), 1, 0, 0, 0);
        d.each("two more", fillsOf(x, 4, 2), 1, 0, 0, 0);
        d.each("as it is: no hand", fillsOf(x, 2, 2), 1, 1, 0, 0);
        d.each("the ledger has to be as claimed", fillsOf(x, 1, 1), 1, 0, 0, 0);
        d.each("ahead of all, less", fillsOf(with(SOUND), -1, 0), 1, 0, 1, 0);
        d.each("ahead of all, more", fillsOf(with(SOUND), 1, 0), 1, 0, 1, 0);
        d.each("below -1", fillsOf(with(SOUND, REFUND), -2, -1), 1, 0, 1, 0);
    }

    private void fromAfar() {
        d.of(17, "FROM AFAR, if it does with 1 to 3 added to, or taken from, c behind some EVENT (or ahead of all), as an ACT would.");
        TrueLedger x = with(SOUND, SELL);
        for (int n = -5; n <= 5; n++) {
            int afar = n != 0 && Math.abs(n) <= 3 ? 1 : 0;
            d.each(n + " behind the last", fillsOf(x, 1, 1 + n), 1, n == 0 ? 1 : 0, 0, afar);
            d.each(n + " ahead of all", fillsOf(with(""), 0, n), 1, n == 0 ? 1 : 0, 0, afar);
        }
        d.each("not with a hand as well", fillsOf(x, 0, 2), 1, 0, 0, 0);
        TrueLedger doubled = with("t0:c+c", TICK, TICK, TICK);
        d.each("24: ahead of all", fillsOf(doubled, 0, 24), 1, 0, 0, 1);
        d.each("12: behind the first", fillsOf(doubled, 0, -12), 1, 0, 0, 1);
        d.each("6: behind the second", fillsOf(doubled, 0, 6), 1, 0, 0, 1);
        d.each("3: behind the third", fillsOf(doubled, 0, -3), 1, 0, 0, 1);
        d.each("5: nowhere", fillsOf(doubled, 0, 5), 1, 0, 0, 0);
        d.each("what is gone again", fillsOf(with("k0:c=9", KEY), 0, 9), 1, 1, 0, 1);
        d.each("the next EVENT goes by it", fillsOf(with("k0:l=c;t0:c=l,c+c", KEY, TICK), 0, 6), 1, 0, 0, 1);
        TrueLedger most = with("t0:c=9,c+c,c+c,c+c,c+9,c+9,c+9;k0:c-9", TICK);
        d.each("beyond 99 it is 99", fillsOf(most, 0, 99), 1, 1, 0, 1);
        d.each("three less than 99", fillsOf(most, 0, 96), 1, 0, 0, 1);
        Due.log(most, 0, TICK, KEY);
        d.each("99 again, and 9 less", fillsOf(most, 0, 90), 1, 1, 0, 1);
        TrueLedger least = with("t0:c=0,c-9,c+c,c+c,c+c,c-9,c-9,c-9", TICK);
        d.each("beyond -99 it is -99", fillsOf(least, 0, -99), 1, 1, 0, 1);
        d.each("three more than -99", fillsOf(least, 0, -96), 1, 0, 0, 1);
        d.each("four more", fillsOf(least, 0, -95), 1, 0, 0, 0);
    }

    private void causes() {
        TrueLedger x = with(SOUND, GAP);
        d.of(18, "CAUSES of a COUNTER: bits 0 (some FILL is CLEAR), 1 (some is so BY A HAND), 2 (some is so FROM AFAR).");
        x.claim(0, 1, 1);
        d.is("CLEAR alone", x.causes(0), 1);
        x.claim(0, 2, 1);
        d.is("BY A HAND alone", x.causes(0), 2);
        x.claim(0, 1, 4);
        d.is("FROM AFAR alone", x.causes(0), 4);
        x.claim(0, 0, 1);
        d.is("some BY A HAND, some FROM AFAR", x.causes(0), 6);
        Due.text(x, 0, "s0:c+1;t0:c+1");
        d.is("all", x.causes(0), 7);
        x.claim(0, 9, 9);
        d.is("none", x.causes(0), 0);
        d.of(18, "CAUSES.");
        Due.log(x, 0, SELL, SELL, SELL, SELL, SELL, SELL, SELL, SELL, SELL);
        d.is("of another LOG", x.causes(0), 1);
        x.wipe(0);
        d.is("of another text", x.causes(0), 0);
        d.of(18, "BAD.");
        d.all("COUNTER", -2, x.causes(-1), x.causes(1), x.causes(LEAST), x.causes(MOST));
    }

    private void settles(String what, TrueLedger x, int drawer, int ledger, int pages) {
        x.claim(0, drawer, ledger);
        d.is(what, x.settling(0, 0), pages);
    }

    private void settling() {
        d.of(19, "CAUSES of a FILL are those of these bits that are so of it.");
        // KEY sets c: CLEAR and FROM AFAR. TICK adds: CLEAR alone. They are not the same.
        settles("CLEAR, and CLEAR with FROM AFAR", with("k0:c=9;t0:c+9", GAP), 0, 9, 1);
        d.of(19, "SETTLING: the fewest of what is LOST to be read, so that whatever is found there, all FILLS that have just that "
            + "there, and some CAUSE, have the same CAUSES;");
        settles("none LOST", with(SOUND, SELL), 1, 1, 0);
        settles("the same CAUSES, whatever it is", with(SOUND, SELL, GAP), 1, 1, 0);
        settles("those without a CAUSE do not matter", with("k0:c=9", GAP), 0, 9, 0);
        settles("BY A HAND, or FROM AFAR", with(SOUND, SELL, GAP), 1, 2, 1);
        settles("two", with("s0:c+2", GAP, GAP), 0, 0, 3);
        settles("all three", with("s0:c+2", GAP, GAP, GAP), 1, 2, 7);
        d.of(19, "as bits (the first that is LOST is bit 0),");
        TrueLedger second = with("t1:c+1;s0:m1", GAP, GAP);
        settles("the second", second, 1, 1, 2);
        Due.log(second, 0, LOST, BALANCE, GAP, KEY, GAP);
        settles("wherever they are", second, 1, 1, 2);
        settles("the third", with("r1:c-1;s0:c+1,m1", GAP, GAP, BALANCE, GAP), -2, 1, 4);
        settles("the second and the third", with("t1:c+1;s0:m1", GAP, GAP, GAP), 1, 2, 6);
        settles("the first and the third", with("s1:c+1;r1:c-1;r0:m1", GAP, GAP, GAP), 0, 1, 5);
        d.of(19, "of like ones the least.");
        // KEY, TICK is CLEAR (and FROM AFAR), SEND, ANSWER is FROM AFAR; no other comes near.
        settles("the first or the second", with("k0:m1;t1:c=9;d0:p=7;a0:c+p", GAP, GAP), 0, 9, 1);
        // REFUND, REFUND, LOST is BY A HAND; one REFUND, with no LOST and no coin beside it, is FROM AFAR.
        settles("the third rather than the first two", with("r0:c-7;x0:m1,c+9", GAP, GAP, GAP), -1, -5, 4);
        d.of(19, "SETTLING as bits (what = 0), its cost (1).");
        TrueLedger x = with("s0:c+2", GAP, GAP, GAP);
        settles("bits", x, 1, 2, 7);
        d.is("cost", x.settling(0, 1), 30);
        d.of(19, "Its cost: as many times that.");
        x.tell(0, 0, 99);
        d.is("three for 99", x.settling(0, 1), 297);
        x.tell(0, 0, 0);
        d.is("three for nothing", x.settling(0, 1), 0);
        d.is("still all three", x.settling(0, 0), 7);
        Due.log(x, 0, SELL, GAP);
        x.tell(0, 0, 7);
        settles("one", x, 1, 2, 1);
        d.is("one for 7", x.settling(0, 1), 7);
        settles("none to be read", x, 1, 3, 0);
        d.is("nothing to be paid", x.settling(0, 1), 0);
    }

    private void settlingRefused() {
        TrueLedger x = with(SOUND, GAP);
        d.of(19, "NOT: no FILL has a CAUSE.");
        x.claim(0, 50, 50);
        d.all("bits, cost", -3, x.settling(0, 0), x.settling(0, 1));
        Due.log(x, 0);
        d.all("an empty LOG", -3, x.settling(0, 0), x.settling(0, 1));
        d.of(19, "BAD;");
        d.all("what, ahead of NOT", -2, x.settling(0, -1), x.settling(0, 2), x.settling(0, LEAST), x.settling(0, MOST));
        d.all("COUNTER", -2, x.settling(-1, 0), x.settling(1, 0), x.settling(LEAST, 0), x.settling(MOST, 1));
    }

    private void like() {
        TrueLedger x = new TrueLedger();
        for (int c = 0; c < 12; c++) x.counter(c == 5 ? 1 : 0);
        d.of(20, "LIKE: COUNTERS (but it itself) of the same VERSION in whose LOG the last k (1 to 12) EVENTS of a COUNTER's LOG "
            + "come, one after the other");
        Due.log(x, 0, KEY, SELL, SELL, BALANCE);
        Due.log(x, 1, TICK, SELL, SELL, BALANCE, SELL);
        Due.log(x, 2, SELL, TICK, SELL, BALANCE);
        Due.log(x, 5, KEY, SELL, SELL, BALANCE);
        Due.log(x, 11, SELL, SELL, SELL, BALANCE);
        d.is("k 1", x.like(0, 1), 1 << 1 | 1 << 2 | 1 << 11);
        d.is("k 2", x.like(0, 2), 1 << 1 | 1 << 2 | 1 << 11);
        d.is("k 3: not with another between", x.like(0, 3), 1 << 1 | 1 << 11);
        d.is("k 4", x.like(0, 4), 0);
        d.is("no other of its VERSION", x.like(5, 1), 0);
        d.of(20, "(LOST ones are like any).");
        Due.log(x, 3, GAP, GAP, SELL, BALANCE);
        Due.log(x, 4, GAP, GAP, GAP);
        d.is("k 3", x.like(0, 3), 1 << 1 | 1 << 3 | 1 << 4 | 1 << 11);
        d.is("k 4", x.like(0, 4), 1 << 3);
        d.of(20, "LIKE, as bits.");
        int[] twelve = {0, 1, 2, 3, 4, 5, 6, 7, 0, 1, 2, 3};
        Due.log(x, 0, twelve);
        d.is("none has twelve", x.like(0, 12), 0);
        Due.log(x, 1, twelve);
        d.is("one has", x.like(0, 12), 1 << 1);
        d.is("and it has these", x.like(1, 12), 1 << 0);
    }

    private void likeRefused() {
        TrueLedger x = with("", GAP, SELL, KEY);
        x.counter(0);
        x.counter(0);
        Due.log(x, 2, SELL, SELL, SELL, SELL, SELL, SELL, SELL, SELL, SELL, SELL, SELL, SELL);
        d.of(20, "BAD: also k above its LOG;");
        d.all("k above its LOG", -2, x.like(0, 4), x.like(0, 12), x.like(1, 1), x.like(2, 13));
        d.all("k", -2, x.like(0, 0), x.like(0, -1), x.like(0, LEAST), x.like(0, MOST), x.like(1, 0));
        d.all("COUNTER", -2, x.like(-1, 1), x.like(3, 1), x.like(LEAST, 1), x.like(MOST, 1));
        d.of(20, "NOT: one of these is LOST.");
        d.is("with the one that is", x.like(0, 3), -3);
        d.is("without it", x.like(0, 2), 0);
        Due.log(x, 0, SELL, GAP);
        d.all("the last", -3, x.like(0, 1), x.like(0, 2));
        d.is("BAD is ahead of NOT", x.like(0, 3), -2);
    }
}
