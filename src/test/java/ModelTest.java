import java.util.Random;

/** Runs of up to 512 calls, the same in every run of the test: TrueLedger answers as PlainModel does. */
public final class ModelTest {
    private static final int RUNS = 600;
    private static final String[] PARTS = {"s0:l+1,p+1", "r0:l-1,p-1", "d0:c+p,p=0", "b0:c+p,p=0", "d0:c+p", "a0:p=0",
        "s0:c+1", "r0:c-1", "s1:c+1", "r1:c-1", "s0:c+1,m1", "s1:c+2,m0", "r0:c-1,m1", "k0:m1", "k1:m0", "t0:c+c",
        "t1:c=l", "x0:p=c,l+p", "x0:c=0", "t0:c+9,c+9,c+9", "a1:c-l,m0", "d1:l=9,l+l,c+l", "b1:c-c", "b0:m1,m1",
        "k0:p=c", "t0:l=c", "b1:c+p,p=0", "x1:m1,c-9,l+l"};

    // Programs that never part, and parts that spoil them, some only by a row of several EVENTS.
    private static final String[] SOUND = {"s0:c+1;r0:c-1;s1:c+1;r1:c-1", "s0:l+1,p+1;r0:l-1,p-1;d0:c+p,p=0;b0:c+p,p=0",
        "s0:c+1;r0:c-1;s1:c+1;r1:c-1;k0:m1;k1:m0", "s0:p+1;r0:p-1;d0:c=p;b0:c=p", "s0:c+1;r0:c-1",
        "s0:c+1;r0:c-1;s1:c+1;r1:c-1;k0:m1;x1:l=1;d1:p=l", "s0:c+1;r0:c-1;s1:c+1;r1:c-1;k0:l=1;d0:p=l"};
    private static final String[] SPOILERS = {"k0:l=1", "d0:p=l", "t0:c+p", "t0:c+l", "x0:l=2", "k0:m1", "k1:l=1", "d1:p=l",
        "t1:c+p", "x1:c-p", "a1:m0", "a0:c=9", "a0:l+1", "b0:c+p", "b1:c+p", "s1:c+1", "r1:c-1", "x0:p+1", "a1:c-l", "t1:c=l",
        "r0:c-1,m1", "s0:c+1,m1", "d0:m1", "k0:c+c", "a0:c-p,c+p", "x0:c+9,c+9,c+9,c+9,c+9,c+9,c+9,c+9,c+9,c+9,c+9"};

    private final Random random;
    private final Both both;
    private final PlainModel model;
    // Which sound program a run is about: its VERSIONS are mostly near one another then.
    private final int kind;

    private ModelTest(int run) {
        this.both = new Both("run " + run);
        this.model = both.model;
        this.random = new Random(7919L * run + 1);
        this.kind = random.nextInt(SOUND.length);
    }

    public static void main(String[] args) {
        int wrong = 0;
        for (int run = 0; run < RUNS && wrong == 0; run++) {
            wrong += new ModelTest(run).play();
        }
        System.out.println(wrong == 0 ? "ModelTest: " + RUNS + " runs as the model" : wrong + " answers are not as due");
        if (wrong != 0) System.exit(1);
    }

    private int play() {
        int texts = 1 + random.nextInt(4);
        for (int i = 0; i < texts; i++) typeText(i);
        int shops = random.nextInt(4);
        for (int i = 0; i < shops; i++) ask("counter", random.nextInt(4));
        while (both.goesOn()) {
            int kind = random.nextInt(100);
            if (kind < 20) versions();
            else if (kind < 50) counters();
            else if (kind < 60) paid();
            else if (kind < 72) judgments();
            else if (kind < 78) looking();
            else if (kind < 97) sheets();
            else ask("digest");
        }
        return both.end();
    }

    private void ask(String name, int... arguments) {
        both.ask(name, arguments);
    }

    /** From the least to the most, now and then a little or far beyond. */
    private int some(int least, int most) {
        int kind = random.nextInt(60);
        if (kind == 0) return least - 1;
        if (kind == 1) return most + 1;
        if (kind == 2) return random.nextBoolean() ? Integer.MIN_VALUE : Integer.MAX_VALUE;
        return least + random.nextInt(most - least + 1);
    }

    private int version() {
        return some(0, 3);
    }

    private int shop() {
        int known = model.shops.size();
        return known == 0 ? some(0, 1) : some(0, known - 1);
    }

    private int lines() {
        return random.nextBoolean() ? some(0, 65535) : random.nextInt(65536) & random.nextInt(65536) & random.nextInt(65536);
    }

    private void typeText(int version) {
        boolean isSound = random.nextInt(4) > 0;
        StringBuilder text = new StringBuilder(isSound ? SOUND[kind] : PARTS[random.nextInt(PARTS.length)]);
        String[] parts = isSound ? SPOILERS : PARTS;
        int more = random.nextInt(5);
        for (int i = 0; i < more; i++) {
            text.append(";").append(parts[random.nextInt(parts.length)]);
        }
        if (random.nextInt(16) == 0) text.setCharAt(random.nextInt(text.length()), (char) random.nextInt(256));
        if (random.nextInt(12) == 0) text.append("lpc+-=m01;:,srb".charAt(random.nextInt(15)));
        if (model.texts[version].length() > 0 && random.nextInt(4) > 0) ask("wipe", version);
        for (int i = 0; i < text.length(); i++) ask("type", version, text.charAt(i));
    }

    private void versions() {
        switch (random.nextInt(12)) {
            case 0: ask("type", version(), "lpc+-=m01;:,srkdaxtb9".charAt(random.nextInt(21))); break;
            case 1: if (random.nextInt(3) == 0) ask("wipe", version()); break;
            case 2: ask("fault", version()); break;
            case 3: ask("acts", version(), some(0, 15)); break;
            case 4: ask("differ", version(), version()); break;
            case 5: ask("run", version(), version(), lines(), some(0, 3), some(0, 8), some(0, 5)); break;
            case 6: runSome(); break;
            case 7: ask("parting", version(), version(), lines()); break;
            case 8: if (random.nextBoolean()) nearMixes(); else partingAndEvents(version(), version(), lines()); break;
            case 9: ask("mended", version(), version()); break;
            case 10: ask("event", version(), version(), lines(), some(0, 5)); break;
            default: if (random.nextInt(3) == 0) typeText(random.nextInt(4)); break;
        }
    }

    private void runSome() {
        int s = random.nextInt(4), type = random.nextInt(3), n = random.nextInt(9);
        ask("sheet", s, type, n);
        for (int i = 0; i < n; i++) ask("put", s, type, i, i == n - 1 && random.nextBoolean() ? 7 : random.nextInt(8));
        int version = version(), other = version(), lines = lines();
        for (int what = 0; what < 6; what++) ask("run", version, other, lines, s, n, what);
    }

    private void partingAndEvents(int version, int other, int lines) {
        ask("parting", version, other, lines);
        for (int i = 0; i < 6; i++) ask("event", version, other, lines, i);
    }

    /** MIXES that are told by small numbers, one after another: none may be taken for another. */
    private void nearMixes() {
        for (int i = 0; i < 12; i++) {
            int version = random.nextInt(4), other = random.nextInt(4), lines = random.nextInt(8);
            if (random.nextBoolean()) ask("parting", version, other, lines);
            else ask("event", version, other, lines, random.nextInt(2));
        }
    }

    private void counters() {
        switch (random.nextInt(12)) {
            case 0: ask("counter", version()); break;
            case 1: case 2: logSome(); break;
            case 3: ask("claim", shop(), some(-3, 3), some(-3, 6)); break;
            case 4: ask("claim", shop(), some(-99, 99), some(-99, 99)); break;
            case 5: ask("about", shop(), some(0, 8)); break;
            case 6: ask("tell", shop(), some(0, 2), some(0, random.nextBoolean() ? 50 : 99)); break;
            case 7: ask("logged", shop(), some(0, 11)); break;
            case 8: ask("fills", shop(), some(0, 3)); break;
            case 9: ask("causes", shop()); break;
            case 10: ask("settling", shop(), some(0, 1)); break;
            default: ask("like", shop(), some(1, random.nextBoolean() ? 3 : 12)); break;
        }
    }

    private void logSome() {
        int s = random.nextInt(4), n = random.nextInt(13), lost = random.nextInt(4), shop = shop();
        ask("sheet", s, 0, n + random.nextInt(2));
        for (int i = 0; i < n; i++) {
            boolean isLost = lost > 0 && random.nextInt(3) == 0;
            if (isLost) lost--;
            ask("put", s, 0, i, isLost ? (random.nextBoolean() ? -1 : 8) : random.nextInt(8));
        }
        ask("log", shop, s, n);
        if (random.nextBoolean()) claimNearTruth(shop);
        ask("fills", shop, some(0, 3));
        ask("settling", shop, random.nextInt(2));
        ask("like", shop, some(1, 3));
        if (random.nextBoolean()) ask("pay", shop, some(0, 399), some(1, 1000));
        ask("owed", shop, 399);
    }

    /** Claims what one FILL ends with, or a little beside it. */
    private void claimNearTruth(int shop) {
        if (!model.isShop(shop)) return;
        PlainModel.Shop it = model.shops.get(shop);
        PlainModel.State state = new PlainModel.State();
        for (int event : it.log) {
            PlainModel.step(state, model.mix(it.version, it.version, 0), event < 0 ? random.nextInt(8) : event);
        }
        int beside = random.nextInt(3);
        int drawer = state.drawer + (beside == 1 ? random.nextInt(3) - 1 : 0);
        ask("claim", shop, drawer, state.registers[2] + (beside == 2 ? random.nextInt(9) - 4 : 0));
    }

    private void paid() {
        switch (random.nextInt(4)) {
            case 0: ask("pay", shop(), some(0, 399), some(1, 1000)); break;
            case 1: ask("interest", some(0, 100)); break;
            case 2: ask("owed", shop(), some(0, 399)); break;
            default: ask("owed", -1, some(0, 399)); break;
        }
    }

    private void judgments() {
        int sparse = random.nextInt(1 << 24) & random.nextInt(1 << 24) & random.nextInt(1 << 24);
        switch (random.nextInt(6)) {
            case 0: ask("judgment", sparse & 0x3FFFF & random.nextInt(1 << 24), random.nextBoolean() ? 0 : sparse); break;
            case 1: ask("judgment", some(0, (1 << 24) - 1), some(0, (1 << 24) - 1)); break;
            case 2: ask("ground", some(0, 7), random.nextInt(2)); break;
            case 3: ask("standing"); break;
            default: ask("falling", some(0, 7)); break;
        }
    }

    private void looking() {
        int all = (1 << model.shops.size()) - 1;
        int some = random.nextInt(5) == 0 ? some(0, 4095) : random.nextInt(4096) & all;
        if (Integer.bitCount(some) > 7 && random.nextInt(6) > 0) some &= random.nextInt(4096);
        ask("order", some, some(-1, 7));
    }

    private void sheets() {
        switch (random.nextInt(9)) {
            case 0: ask("sheet", some(0, 3), some(0, 2), some(0, random.nextBoolean() ? 6 : 40)); break;
            case 1: if (random.nextInt(4) == 0) ask("lose", some(0, 3)); break;
            case 2: putSome(random.nextInt()); break;
            case 3: putSome(random.nextInt(8)); break;
            case 4: getSome(); break;
            case 5: case 6: copySome(); break;
            case 7: ask("write", shop(), some(0, 3)); break;
            default: ask("count", some(0, 8)); break;
        }
    }

    private int typeOf(int s) {
        boolean isKnown = s >= 0 && s < 4 && model.sheets[s] != null;
        return isKnown && random.nextInt(8) > 0 ? model.sheets[s].type : some(0, 2);
    }

    private int itemOf(int s) {
        boolean isKnown = s >= 0 && s < 4 && model.sheets[s] != null && model.sheets[s].items.length > 0;
        return isKnown ? some(0, model.sheets[s].items.length - 1) : some(0, 5);
    }

    private void putSome(int v) {
        int s = some(0, 3);
        ask("put", s, typeOf(s), itemOf(s), v);
    }

    private void getSome() {
        int s = some(0, 3);
        ask("get", s, typeOf(s), itemOf(s));
    }

    private void copySome() {
        int s = some(0, 3), t = random.nextBoolean() ? s : some(0, 3);
        ask("copy", s, itemOf(s), t, itemOf(t), some(0, 4));
        for (int i = 0; i < 6; i++) if (t >= 0 && t < 4) ask("get", t, typeOf(t), i);
    }
}
