/** What the document says of the whole: one shop's story from the first call to the last, EVENTS, and 512 calls. */
final class WholeSentences {
    private static final int SELL = 0, REFUND = 1, KEY = 2, SEND = 3, ANSWER = 4, LOST = 5, TICK = 6, BALANCE = 7, GAP = -1;
    private static final int L = 0, C = 2, DRAWER = 4, PARTS = 5;
    private static final int CLEAR = 1, BY_A_HAND = 2, FROM_AFAR = 4;
    // SEND posts what was sold, and only the ANSWER to it says so: without one, BALANCE posts it again.
    private static final String POSTS_TWICE = "s0:l+1,p+1;r0:l-1,p-1;d0:c+p;a0:p=0;b0:c+p,p=0";
    private static final String POSTS_ONCE = "s0:l+1,p+1;r0:l-1,p-1;d0:c+p,p=0;b0:c+p,p=0";

    private final Sentences d;

    WholeSentences(Sentences d) {
        this.d = d;
    }

    void tell() {
        TrueLedger x = new TrueLedger();
        Due.text(x, 0, POSTS_TWICE);
        Due.text(x, 1, POSTS_ONCE);
        program(x);
        counters(x);
        behindThem(x);
        events();
        calls();
    }

    private void program(TrueLedger x) {
        d.ofWhole("counters that run a program in versions, told as texts of what each event does to three registers in two modes;");
        d.is("a counter", x.counter(0), 0);
        d.is("its version", x.about(0, 0), 0);
        d.is("the text is well", x.fault(0), -1);
        d.is("what SELL does in MODE 0", x.acts(0, 0), 2);
        d.is("what it does in MODE 1", x.acts(0, 1), 0);
        d.ofWhole("the coins in the drawer, that no program moves;");
        Due.row(x, 0, SELL, SELL, SEND, BALANCE);
        for (int v = 0; v < 4; v++) d.is("under version " + v, x.run(v, v, 0, 0, 4, DRAWER), 2);
        d.ofWhole("The ledger that was never wrong:");
        d.is("it says 4", x.run(0, 0, 0, 0, 4, C), 4);
        d.is("it parts", x.run(0, 0, 0, 0, 4, PARTS), 1);
        d.ofWhole("the shortest row of events by which the ledger parts from the drawer with nobody's hand, or that there is none;");
        d.is("three events", x.parting(0, 0, 0), 3);
        d.each("which", new long[] {x.event(0, 0, 0, 0), x.event(0, 0, 0, 1), x.event(0, 0, 0, 2)}, SELL, SEND, BALANCE);
        d.is("there is none", x.parting(1, 1, 0), -1);
        d.ofWhole("the fewest lines of a version to be taken from another so that none parts;");
        // With SEND of the second, an ANSWER of the first would still forget what was sold behind it.
        d.is("SEND and ANSWER", x.mended(0, 1), 1 << 2 * SEND | 1 << 2 * ANSWER);
        d.is("so none parts", x.parting(0, 1, 1 << 2 * SEND | 1 << 2 * ANSWER), -1);
        d.is("SEND alone does not", x.parting(0, 1, 1 << 2 * SEND), 3);
    }

    private void counters(TrueLedger x) {
        d.ofWhole("logs with gaps: what a shortfall can come from, the program, a hand, a row posted from afar;");
        Due.log(x, 0, SELL, SELL, GAP, BALANCE);
        x.claim(0, 2, 4);
        d.is("it is a shortfall", x.about(0, 5), 1);
        d.is("the program: a SEND is LOST; or a row from afar, behind anything else", x.causes(0), CLEAR | FROM_AFAR);
        x.claim(0, 1, 2);
        d.is("a hand, a coin sold and gone; or from afar, behind a REFUND", x.causes(0), BY_A_HAND | FROM_AFAR);
        x.claim(0, 2, 4);
        d.ofWhole("which pages of a log would settle it at least cost;");
        d.is("the one that is LOST", x.settling(0, 0), 1);
        d.is("its cost", x.settling(0, 1), 10);
        d.ofWhole("the same rows at other counters;");
        for (int c = 1; c < 4; c++) x.counter(c == 2 ? 1 : 0);
        Due.log(x, 1, SELL, SEND, BALANCE, KEY);
        Due.log(x, 2, SELL, SEND, BALANCE);
        Due.log(x, 3, SELL, SEND, BALANCE);
        d.is("at 1, and perhaps at 0; 2 runs another version", x.like(3, 2), 1 | 2);
    }

    private void behindThem(TrueLedger x) {
        d.ofWhole("what was paid, what is owed back;");
        d.is("paid", x.pay(0, 5, 600), 1);
        d.is("owed back a hundred days later", x.owed(0, 105), 606);
        d.ofWhole("judgments and what falls with a presumption;");
        d.is("on the presumption alone", x.judgment(1, 0), 0);
        d.is("on that one, or on a witness", x.judgment(0, 2 | 1 << 8), 1);
        d.is("on both of them", x.judgment(3 << 8, 0), 2);
        d.is("they stand", x.standing(), 7);
        d.is("what falls with it", x.falling(0), 1 | 4);
        d.ofWhole("whom to look at first.");
        x.tell(2, 2, 30);
        d.is("where a day costs most", x.order(15, 0), 2);
    }

    private void events() {
        d.ofWhole("EVENTS are 0 SELL, 1 REFUND, 2 KEY, 3 SEND, 4 ANSWER, 5 LOST, 6 TICK, 7 BALANCE.");
        int[] named = {SELL, REFUND, KEY, SEND, ANSWER, LOST, TICK, BALANCE};
        for (int told = 0; told < 8; told++) {
            TrueLedger x = new TrueLedger();
            Due.text(x, 0, "srkdaxtb".charAt(told) + "0:l=1,c=9");
            for (int event : named) {
                Due.row(x, 0, event);
                d.is("letter " + told + ", event " + event, x.run(0, 0, 0, 0, 1, L), event == told ? 1 : 0);
                d.is("coins of event " + event, x.run(0, 0, 0, 0, 1, DRAWER), event == SELL ? 1 : event == REFUND ? -1 : 0);
                d.is("whether it parts", x.run(0, 0, 0, 0, 1, PARTS), event == told && event == BALANCE ? 1 : 0);
            }
        }
    }

    /** Within 512 calls none may tire; and each is the same whatever was asked ahead of it. */
    private void calls() {
        d.ofWhole("An object is used for at most 512 calls after it has been made; what later calls answer is free.");
        TrueLedger x = new TrueLedger();
        for (int n = 0; n < 512; n++) d.is("call " + n, x.sheet(n % 4, n % 3, n % 41), n % 41);
        TrueLedger y = new TrueLedger();
        d.is("call 1", y.counter(0), 0);
        for (int n = 0; n < 170; n++) {
            d.is("a claim", y.claim(0, 0, n % 5), 1);
            d.is("its causes", y.causes(0), n % 5 == 0 ? CLEAR : n % 5 == 4 ? 0 : FROM_AFAR);
            d.is("the least parting", y.parting(n % 4, n % 3, n), 2);
        }
        d.is("call 512", y.about(0, 4), 169 % 5);
    }
}
