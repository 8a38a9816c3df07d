import java.util.ArrayList;
import java.util.List;

/**
 * Every call with its arguments at their least, their most and beyond, two at a time, on an object that is new, on one
 * in use and on one that is full: TrueLedger refuses as PlainModel does, in the same order, and changes nothing by it.
 */
public final class EdgesTest {
    private static final int LEAST = Integer.MIN_VALUE, MOST = Integer.MAX_VALUE;
    private static final int NEW = 0, IN_USE = 1, FULL = 2, MOST_PROBES = 60;

    // What arguments may be tried; the first is an ordinary one.
    private static final int[] VERSION = {0, 1, 3, -1, 4, LEAST, MOST};
    private static final int[] BYTE = {'s', 0, 255, -1, 256, LEAST, MOST};
    private static final int[] LINE = {0, 15, -1, 16, LEAST, MOST};
    private static final int[] LINES = {5, 0, 65535, -1, 65536, LEAST, MOST};
    private static final int[] SHEET = {0, 1, 2, 3, -1, 4, LEAST, MOST};
    private static final int[] UP_TO_40 = {2, 0, 12, 13, 40, -1, 41, LEAST, MOST};
    private static final int[] UP_TO_12 = {2, 0, 3, 4, 12, -1, 13, LEAST, MOST};
    private static final int[] ITEM = {0, 1, 11, 12, 39, 40, -1, LEAST, MOST};
    private static final int[] TYPE = {0, 1, 2, -1, 3, LEAST, MOST};
    private static final int[] VALUE = {0, 7, 8, -1, 128, -32769, LEAST, MOST};
    private static final int[] COUNTER = {0, 1, 11, -1, -2, 2, 12, LEAST, MOST};
    private static final int[] CLAIM = {0, -99, 99, -100, 100, LEAST, MOST};
    private static final int[] TOLD = {5, 0, 1, 50, 51, 99, 100, -1, LEAST, MOST};
    private static final int[] DAY = {0, 10, 399, -1, 400, LEAST, MOST};
    private static final int[] COINS = {1, 1000, 0, -1, 1001, LEAST, MOST};
    private static final int[] INTEREST = {5, 0, 100, -1, 101, LEAST, MOST};
    private static final int[] BITS = {1, 0, 256, (1 << 24) - 1, -1, 1 << 24, LEAST, MOST};
    private static final int[] GROUND = {0, 7, -1, 8, LEAST, MOST};
    private static final int[] SOME = {1, 0, 3, 255, 511, 4080, 4095, 4096, -1, LEAST, MOST};
    private static final int[] PLACE = {0, -1, 1, 7, 8, -2, LEAST, MOST};

    private static int[] upTo(int most) {
        int[] all = new int[most + 5];
        for (int i = 0; i <= most; i++) all[i] = i;
        all[most + 1] = -1;
        all[most + 2] = most + 1;
        all[most + 3] = LEAST;
        all[most + 4] = MOST;
        return all;
    }

    private final List<int[]> probes = new ArrayList<>();
    private int wrong = 0;
    private int asked = 0;

    public static void main(String[] args) {
        EdgesTest test = new EdgesTest();
        for (int scene = NEW; scene <= FULL; scene++) test.scene(scene);
        System.out.println("EdgesTest: " + test.asked + " answers, " + test.wrong + " not as due");
        if (test.wrong != 0) System.exit(1);
    }

    private void scene(int scene) {
        edges(scene, "type", VERSION, BYTE);
        edges(scene, "wipe", VERSION);
        edges(scene, "fault", VERSION);
        edges(scene, "acts", VERSION, LINE);
        edges(scene, "differ", VERSION, VERSION);
        edges(scene, "run", VERSION, VERSION, LINES, SHEET, UP_TO_40, upTo(5));
        edges(scene, "parting", VERSION, VERSION, LINES);
        edges(scene, "event", VERSION, VERSION, LINES, upTo(5));
        edges(scene, "mended", VERSION, VERSION);
        edges(scene, "counter", VERSION);
        edges(scene, "log", COUNTER, SHEET, UP_TO_12);
        edges(scene, "claim", COUNTER, CLAIM, CLAIM);
        edges(scene, "about", COUNTER, upTo(8));
        edges(scene, "tell", COUNTER, upTo(2), TOLD);
        edges(scene, "logged", COUNTER, upTo(11));
        edges(scene, "fills", COUNTER, upTo(3));
        edges(scene, "causes", COUNTER);
        edges(scene, "settling", COUNTER, upTo(1));
        edges(scene, "like", COUNTER, upTo(12));
        edges(scene, "pay", COUNTER, DAY, COINS);
        edges(scene, "interest", INTEREST);
        edges(scene, "owed", COUNTER, DAY);
        edges(scene, "judgment", BITS, BITS);
        edges(scene, "ground", GROUND, new int[] {0, 1});
        edges(scene, "standing");
        edges(scene, "falling", GROUND);
        edges(scene, "order", SOME, PLACE);
        edges(scene, "sheet", SHEET, TYPE, UP_TO_40);
        edges(scene, "lose", SHEET);
        edges(scene, "put", SHEET, TYPE, ITEM, VALUE);
        edges(scene, "get", SHEET, TYPE, ITEM);
        edges(scene, "copy", SHEET, ITEM, SHEET, ITEM, UP_TO_40);
        edges(scene, "write", COUNTER, SHEET);
        edges(scene, "count", upTo(8));
        edges(scene, "digest");
    }

    private void edges(int scene, String name, int[]... kinds) {
        probes.clear();
        int[] ordinary = new int[kinds.length];
        for (int i = 0; i < kinds.length; i++) ordinary[i] = kinds[i][0];
        if (kinds.length < 2) {
            for (int a : kinds.length == 0 ? new int[] {0} : kinds[0]) probes.add(kinds.length == 0 ? ordinary : new int[] {a});
        }
        for (int i = 0; i < kinds.length; i++) {
            for (int j = i + 1; j < kinds.length; j++) tryBoth(ordinary, i, kinds[i], j, kinds[j]);
        }
        for (int from = 0; from < probes.size(); from += MOST_PROBES) ask(scene, name, from);
    }

    private void tryBoth(int[] ordinary, int i, int[] first, int j, int[] second) {
        for (int a : first) {
            for (int b : second) {
                int[] probe = ordinary.clone();
                probe[i] = a;
                probe[j] = b;
                probes.add(probe);
            }
        }
    }

    private void ask(int scene, String name, int from) {
        Both both = new Both("scene " + scene + ", " + name + " from " + from);
        if (scene >= IN_USE) use(both, scene == FULL);
        for (int i = from; i < probes.size() && i < from + MOST_PROBES; i++) {
            both.ask(name, probes.get(i));
            if (both.model.finding != 0) both.ask("count", 8);
            asked++;
        }
        lookOver(both);
        wrong += both.end();
    }

    /** What digest() does not tell: the items of SHEETS, and the LOGS. */
    private static void lookOver(Both both) {
        for (int s = 0; s < 4; s++) {
            PlainModel.Row row = both.model.sheets[s];
            for (int i = 0; row != null && i < row.items.length; i++) both.ask("get", s, row.type, i);
        }
        for (int c = 0; c < both.model.shops.size(); c++) {
            for (int i = 0; i < both.model.shops.get(c).log.size(); i++) both.ask("logged", c, i);
        }
    }

    /** Two COUNTERS and a few of all else; or as many of all as there can be. */
    private static void use(Both both, boolean isFull) {
        type(both, 0, "s0:c+1;r0:c-1;k0:l=1;t0:c+l" + (isFull ? ",m1".repeat(31) : ""));
        type(both, 1, "s0:c+1;r0:c-1");
        int counters = isFull ? 12 : 2, paid = isFull ? 40 : 3, judgments = isFull ? 16 : 3;
        for (int c = 0; c < counters; c++) both.ask("counter", c == 1 ? 1 : 0);
        both.ask("sheet", 0, 0, isFull ? 40 : 4);
        both.ask("sheet", 1, 2, 12);
        both.ask("sheet", 2, 0, 0);
        for (int i = 0; i < 4; i++) both.ask("put", 0, 0, i, i % 2 == 0 ? 6 : -1);
        for (int i = 0; i < 12; i++) both.ask("put", 1, 2, i, i % 4 == 3 ? 9 : i % 3);
        for (int c = 0; c < counters; c++) both.ask("log", c, c % 2, c % 2 == 0 ? 4 : 12);
        for (int c = 0; c < counters; c++) both.ask("claim", c, c % 3 - 1, c % 4);
        for (int n = 0; n < paid; n++) both.ask("pay", n % counters, 10 * n % 400, 100 + n);
        for (int j = 0; j < judgments; j++) both.ask("judgment", 1 << j % 10, j % 2 == 0 ? 0 : 1 << j);
        both.ask("ground", 3, 0);
    }

    private static void type(Both both, int version, String text) {
        for (int i = 0; i < text.length(); i++) both.ask("type", version, text.charAt(i));
    }
}
