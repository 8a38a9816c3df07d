/** TrueLedger and PlainModel side by side: both are asked the same, 512 times at most, and have to answer alike. */
final class Both {
    private static final int CALLS = 512;

    private final TrueLedger ledger = new TrueLedger();
    final PlainModel model = new PlainModel();
    private final String run;
    private int calls = 0;
    private int wrong = 0;
    // What the model answered last.
    private long last;

    Both(String run) {
        this.run = run;
    }

    /** Whether more can be asked, the digest at the end apart. */
    boolean goesOn() {
        return calls < CALLS - 1 && wrong == 0;
    }

    void ask(String name, int... arguments) {
        if (goesOn()) askOnce(name, arguments);
    }

    /** How many answers were not as due. */
    int end() {
        askOnce("digest");
        return wrong;
    }

    private void askOnce(String name, int... arguments) {
        calls++;
        long got = call(name, arguments);
        if (got == last) return;
        wrong++;
        StringBuilder told = new StringBuilder(name);
        for (int argument : arguments) told.append(' ').append(argument);
        System.out.println(run + ", call " + calls + ": " + told + " answered " + got + ", due is " + last);
    }

    /** Asks both by a call's name: what the ledger answers. */
    private long call(String name, int... a) {
        switch (name) {
            case "type": last = model.type(a[0], a[1]); return ledger.type(a[0], a[1]);
            case "wipe": last = model.wipe(a[0]); return ledger.wipe(a[0]);
            case "fault": last = model.fault(a[0]); return ledger.fault(a[0]);
            case "acts": last = model.acts(a[0], a[1]); return ledger.acts(a[0], a[1]);
            case "differ": last = model.differ(a[0], a[1]); return ledger.differ(a[0], a[1]);
            case "run": last = model.run(a[0], a[1], a[2], a[3], a[4], a[5]);
                return ledger.run(a[0], a[1], a[2], a[3], a[4], a[5]);
            case "parting": last = model.parting(a[0], a[1], a[2]); return ledger.parting(a[0], a[1], a[2]);
            case "event": last = model.event(a[0], a[1], a[2], a[3]); return ledger.event(a[0], a[1], a[2], a[3]);
            case "mended": last = model.mended(a[0], a[1]); return ledger.mended(a[0], a[1]);
            case "counter": last = model.counter(a[0]); return ledger.counter(a[0]);
            case "log": last = model.log(a[0], a[1], a[2]); return ledger.log(a[0], a[1], a[2]);
            case "claim": last = model.claim(a[0], a[1], a[2]); return ledger.claim(a[0], a[1], a[2]);
            case "about": last = model.about(a[0], a[1]); return ledger.about(a[0], a[1]);
            case "tell": last = model.tell(a[0], a[1], a[2]); return ledger.tell(a[0], a[1], a[2]);
            case "logged": last = model.logged(a[0], a[1]); return ledger.logged(a[0], a[1]);
            case "fills": last = model.fills(a[0], a[1]); return ledger.fills(a[0], a[1]);
            case "causes": last = model.causes(a[0]); return ledger.causes(a[0]);
            case "settling": last = model.settling(a[0], a[1]); return ledger.settling(a[0], a[1]);
            case "like": last = model.like(a[0], a[1]); return ledger.like(a[0], a[1]);
            case "pay": last = model.pay(a[0], a[1], a[2]); return ledger.pay(a[0], a[1], a[2]);
            case "interest": last = model.interest(a[0]); return ledger.interest(a[0]);
            case "owed": last = model.owed(a[0], a[1]); return ledger.owed(a[0], a[1]);
            case "judgment": last = model.judgment(a[0], a[1]); return ledger.judgment(a[0], a[1]);
            case "ground": last = model.ground(a[0], a[1] == 1); return ledger.ground(a[0], a[1] == 1);
            case "standing": last = model.standing(); return ledger.standing();
            case "falling": last = model.falling(a[0]); return ledger.falling(a[0]);
            case "order": last = model.order(a[0], a[1]); return ledger.order(a[0], a[1]);
            case "sheet": last = model.sheet(a[0], a[1], a[2]); return ledger.sheet(a[0], a[1], a[2]);
            case "lose": last = model.lose(a[0]); return ledger.lose(a[0]);
            case "put": last = model.put(a[0], a[1], a[2], a[3]); return ledger.put(a[0], a[1], a[2], a[3]);
            case "get": last = model.get(a[0], a[1], a[2]); return ledger.get(a[0], a[1], a[2]);
            case "copy": last = model.copy(a[0], a[1], a[2], a[3], a[4]);
                return ledger.copy(a[0], a[1], a[2], a[3], a[4]);
            case "write": last = model.write(a[0], a[1]); return ledger.write(a[0], a[1]);
            case "count": last = model.count(a[0]); return ledger.count(a[0]);
            case "digest": last = model.digest(); return ledger.digest();
            default: throw new IllegalArgumentException(name);
        }
    }
}
