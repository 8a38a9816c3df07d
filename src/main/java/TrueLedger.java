import java.util.Arrays;

/**
 * The ledger that was never wrong: counters that run a program in versions, the coins in the drawer that no
 * program moves, and what a shortfall can come from. The words in capitals are those of the document.
 */
public final class TrueLedger {
    public static final int NONE = -1, BAD = -2, NOT = -3, FULL = -4;

    private static final int NULL = 1, INDEX = 2, CAST = 3, STORE = 4, SIZE = 5;
    private static final int NO_NUMBER = -1000;
    private static final int LEAST_INT = 0x80000000;

    private static final int SELL = 0, REFUND = 1, BALANCE = 7, EVENTS = 8;
    private static final int LINES = 16, ALL_LINES = 0xFFFF, MOST_LINES_MENDED = 8;
    private static final int VERSIONS = 4, MOST_BYTES = 120;
    private static final int LONGEST_PARTING = 5, LONGEST_MENDED = 4;
    private static final int COUNTERS = 12, MOST_LOGGED = 12, MOST_LOST = 3, MOST_CLAIMED = 99;
    private static final int CLEAR = 1, BY_A_HAND = 2, FROM_AFAR = 4, FARTHEST = 3;
    private static final int MOST_PAID = 40, MOST_COINS = 1000, LAST_DAY = 399, MOST_INTEREST = 100;
    private static final int GROUNDS = 8, JUDGMENTS = 16, ALL_BITS = 0xFFFFFF;
    private static final int MOST_IN_ORDER = 8;
    private static final int SHEETS = 4, TYPES = 3, MOST_ITEMS = 40;

    // A STATE is kept in one int, so that rows of STATES need no objects: from bit 0 on c, p, l
    // (8 bits each, 99 above what they are), then the MODE.
    private static final int REGISTER_LIMIT = 99;
    private static final int BEGINNING = REGISTER_LIMIT << 16 | REGISTER_LIMIT << 8 | REGISTER_LIMIT;

    private final Version[] versions = new Version[VERSIONS];
    private final Counter[] counters = new Counter[COUNTERS];
    private final Sheet[] sheets = new Sheet[SHEETS];
    private final int[] queue = new int[MOST_IN_ORDER];
    private final Mix mix;
    private final Search search = new Search();
    private final Mender mender = new Mender();
    private final Filler filler = new Filler();
    private final Paid paid = new Paid();
    private final Court court = new Court();
    private int counterCount = 0;
    private int latestFinding = 0;
    // The MIX whose LEAST PARTING stands in search, as a number, so that event() need not seek it again; NONE.
    private int soughtMix = NONE;
    private int partingLength = NONE;

    public TrueLedger() {
        for (int v = 0; v < VERSIONS; v++) {
            versions[v] = new Version();
        }
        mix = new Mix(versions[0]);
        for (int s = 0; s < SHEETS; s++) {
            sheets[s] = new Sheet();
        }
    }

    // ---- versions

    public int type(int version, int b) {
        Version text = versionAt(version);
        if (text == null || b < 0 || b > 255) {
            return BAD;
        }
        soughtMix = NONE;
        return text.append(b);
    }

    public int wipe(int version) {
        Version text = versionAt(version);
        if (text == null) {
            return BAD;
        }
        soughtMix = NONE;
        return text.empty();
    }

    public int fault(int version) {
        Version text = versionAt(version);
        if (text == null) {
            return BAD;
        }
        text.read();
        return text.faultPlace;
    }

    public int acts(int version, int line) {
        Version text = versionAt(version);
        if (text == null || line < 0 || line >= LINES) {
            return BAD;
        }
        text.read();
        return text.actCount[line];
    }

    public int differ(int version, int other) {
        Version first = versionAt(version);
        Version second = versionAt(other);
        return first == null || second == null ? BAD : linesUnlike(first, second);
    }

    public int run(int version, int other, int lines, int s, int n, int what) {
        if (!setMix(version, other, lines) || n < 0 || n > MOST_ITEMS || what < 0 || what > 5) {
            return NO_NUMBER;
        }
        Sheet sheet = sheetAt(s);
        if (sheet == null) {
            return NO_NUMBER;
        }
        if (sheet.isLost || n > sheet.length) {
            latestFinding = sheet.isLost ? NULL : INDEX;
            return NO_NUMBER;
        }
        return sheet.countEvents(n) < n ? NO_NUMBER : endOfRun(sheet.items, n, what);
    }

    public int parting(int version, int other, int lines) {
        return setMix(version, other, lines) ? seekParting(version, other, lines) : BAD;
    }

    public int event(int version, int other, int lines, int i) {
        if (i < 0 || !setMix(version, other, lines)) {
            return BAD;
        }
        int length = seekParting(version, other, lines);
        return i < length && i < LONGEST_PARTING ? search.row[i] : NONE;
    }

    public int mended(int version, int other) {
        Version first = versionAt(version);
        Version second = versionAt(other);
        if (first == null || second == null) {
            return BAD;
        }
        int unlike = linesUnlike(first, second);
        if (Integer.bitCount(unlike) > MOST_LINES_MENDED) {
            return FULL;
        }
        mix.set(first, second, 0);
        soughtMix = NONE;
        return mender.fewestLines(mix, search, unlike);
    }

    private Version versionAt(int version) {
        return version < 0 || version >= VERSIONS ? null : versions[version];
    }

    /** Whether there is such a MIX; if so, it is the one that mix tells from now on. */
    private boolean setMix(int version, int other, int lines) {
        Version first = versionAt(version);
        Version second = versionAt(other);
        if (first == null || second == null || lines < 0 || lines > ALL_LINES) {
            return false;
        }
        mix.set(first, second, lines);
        return true;
    }

    /** How long the LEAST PARTING of mix is, that was set to these just now. */
    private int seekParting(int version, int other, int lines) {
        int mixNumber = lines << 4 | other << 2 | version;
        if (mixNumber != soughtMix) {
            partingLength = search.find(mix, LONGEST_PARTING);
            soughtMix = mixNumber;
        }
        return partingLength;
    }

    private static int linesUnlike(Version first, Version second) {
        first.read();
        second.read();
        int unlike = 0;
        for (int line = 0; line < LINES; line++) {
            if (!first.tellsAlike(line, second, line)) {
                unlike |= 1 << line;
            }
        }
        return unlike;
    }

    private int endOfRun(int[] row, int n, int what) {
        int state = BEGINNING;
        int drawer = 0;
        int last = NONE;
        for (int i = 0; i < n && i < row.length; i++) {
            last = row[i];
            state = mix.after(state, last);
            drawer += coinsOf(last);
        }
        switch (what) {
            case 0: return (state >> 16 & 255) - REGISTER_LIMIT;
            case 1: return (state >> 8 & 255) - REGISTER_LIMIT;
            case 2: return ledgerOf(state);
            case 3: return modeOf(state);
            case 4: return drawer;
            default: return last == BALANCE && ledgerOf(state) != drawer ? 1 : 0;
        }
    }

    private static int ledgerOf(int state) {
        return (state & 255) - REGISTER_LIMIT;
    }

    private static int modeOf(int state) {
        return state >> 24 & 1;
    }

    private static int coinsOf(int event) {
        return event == SELL ? 1 : event == REFUND ? -1 : 0;
    }

    // ---- counters

    public int counter(int version) {
        if (versionAt(version) == null) {
            return BAD;
        }
        if (counterCount >= COUNTERS) {
            return FULL;
        }
        counters[counterCount] = new Counter(version);
        counterCount++;
        return counterCount - 1;
    }

    public int log(int counter, int s, int n) {
        Counter it = counterAt(counter);
        Sheet sheet = sheetAt(s);
        if (it == null || sheet == null || n < 0 || n > MOST_LOGGED) {
            return BAD;
        }
        if (sheet.isLost || n > sheet.length) {
            return finding(sheet.isLost ? NULL : INDEX);
        }
        if (n - sheet.countEvents(n) > MOST_LOST) {
            return NOT;
        }
        return it.takeLog(sheet, n);
    }

    public int claim(int counter, int drawer, int ledger) {
        Counter it = counterAt(counter);
        if (it == null || Math.max(drawer, ledger) > MOST_CLAIMED || Math.min(drawer, ledger) < -MOST_CLAIMED) {
            return BAD;
        }
        it.drawer = drawer;
        it.ledger = ledger;
        it.judgedAt = NONE;
        return 1;
    }

    public int about(int counter, int what) {
        Counter it = counterAt(counter);
        return it == null ? NO_NUMBER : it.told(what);
    }

    public int tell(int counter, int what, int v) {
        Counter it = counterAt(counter);
        return it == null ? BAD : it.change(what, v);
    }

    public int logged(int counter, int i) {
        Counter it = counterAt(counter);
        return it == null || i < 0 || i >= it.length ? BAD : it.events[i];
    }

    public int fills(int counter, int what) {
        Counter it = counterAt(counter);
        if (it == null || what < 0 || what > 3) {
            return BAD;
        }
        judge(it);
        return it.tally[what];
    }

    public int causes(int counter) {
        Counter it = counterAt(counter);
        if (it == null) {
            return BAD;
        }
        judge(it);
        return it.allCauses;
    }

    public int settling(int counter, int what) {
        Counter it = counterAt(counter);
        if (it == null || what < 0 || what > 1) {
            return BAD;
        }
        judge(it);
        if (it.allCauses == 0) {
            return NOT;
        }
        return what == 0 ? it.pagesToRead : Integer.bitCount(it.pagesToRead) * it.pageCost;
    }

    public int like(int counter, int k) {
        Counter it = counterAt(counter);
        if (it == null || k < 1 || k > it.length) {
            return BAD;
        }
        if (it.hasLostFrom(it.length - k)) {
            return NOT;
        }
        int alike = 0;
        for (int i = 0; i < counterCount; i++) {
            Counter other = counterAt(i);
            if (i != counter && other != null && other.version == it.version && other.holdsEndOf(it, k)) {
                alike |= 1 << i;
            }
        }
        return alike;
    }

    private Counter counterAt(int counter) {
        return counter < 0 || counter >= counterCount || counter >= COUNTERS ? null : counters[counter];
    }

    /** Finds what a COUNTER's FILLS come from, where its LOG, its CLAIM or its VERSION has changed since. */
    private void judge(Counter it) {
        Version text = versionAt(it.version);
        if (text != null && it.judgedAt != text.revision) {
            mix.set(text, text, 0);
            filler.judge(it, mix);
            it.judgedAt = text.revision;
        }
    }

    // ---- paid, owed

    public int pay(int counter, int day, int coins) {
        if (counterAt(counter) == null || !isDay(day) || coins < 1 || coins > MOST_COINS) {
            return BAD;
        }
        return paid.add(counter, day, coins);
    }

    public int interest(int i) {
        if (i < 0 || i > MOST_INTEREST) {
            return BAD;
        }
        int was = paid.interest;
        paid.interest = i;
        return was;
    }

    public int owed(int counter, int day) {
        if (counter != NONE && counterAt(counter) == null || !isDay(day)) {
            return BAD;
        }
        return owedOn(counter, day);
    }

    private static boolean isDay(int day) {
        return day >= 0 && day <= LAST_DAY;
    }

    private int owedOn(int counter, int day) {
        int sum = 0;
        for (int i = 0; i < counterCount; i++) {
            Counter it = counterAt(i);
            if ((counter == NONE || counter == i) && it != null && it.isShort() && paid.hasAny(i, day)) {
                judge(it);
                sum += (it.allCauses & CLEAR) != 0 ? paid.withInterest(i, day) : 0;
            }
        }
        return sum;
    }

    // ---- judgments

    public int judgment(int all, int one) {
        if (all < 0 || all > ALL_BITS || one < 0 || one > ALL_BITS) {
            return BAD;
        }
        return court.add(all, one);
    }

    public int ground(int ground, boolean stands) {
        if (ground < 0 || ground >= GROUNDS) {
            return BAD;
        }
        int grounds = stands ? court.grounds | 1 << ground : court.grounds & ~(1 << ground);
        if (grounds == court.grounds) {
            return 0;
        }
        court.grounds = grounds;
        return 1;
    }

    public int standing() {
        return court.ledBackTo(court.grounds);
    }

    public int falling(int ground) {
        if (ground < 0 || ground >= GROUNDS) {
            return BAD;
        }
        return court.ledBackTo(court.grounds) & ~court.ledBackTo(court.grounds & ~(1 << ground));
    }

    // ---- looking

    public int order(int counters, int i) {
        int size = Integer.bitCount(counters);
        if (counters < 0 || counters >= 1 << counterCount || size > MOST_IN_ORDER || i < NONE || i >= size) {
            return BAD;
        }
        int queued = 0;
        for (int c = 0; c < counterCount; c++) {
            if ((counters >> c & 1) == 1) {
                enqueue(c, queued);
                queued++;
            }
        }
        return i == NONE ? costOfQueue(queued) : queue[i];
    }

    /**
     * Puts a COUNTER into the queue behind all that are to be looked at no later than it. Least cost is in the
     * order of days by WEIGHT, and COUNTERS come here in the order of their numbers: so like ones stay in it.
     */
    private void enqueue(int counter, int queued) {
        if (queued < 0 || queued >= MOST_IN_ORDER) {
            return;
        }
        int place = queued;
        while (place > 0 && isBefore(counter, queue[place - 1])) {
            queue[place] = queue[place - 1];
            place--;
        }
        queue[place] = counter;
    }

    private boolean isBefore(int counter, int other) {
        Counter a = counterAt(counter);
        Counter b = counterAt(other);
        return a != null && b != null && a.days * b.weight < b.days * a.weight;
    }

    private int costOfQueue(int queued) {
        int cost = 0;
        int day = 0;
        for (int k = 0; k < queued && k < MOST_IN_ORDER; k++) {
            Counter it = counterAt(queue[k]);
            if (it != null) {
                day += it.days;
                cost += day * it.weight;
            }
        }
        return cost;
    }

    // ---- sheets

    public int sheet(int s, int type, int n) {
        Sheet sheet = sheetAt(s);
        if (sheet == null || !isType(type) || n > MOST_ITEMS) {
            return BAD;
        }
        if (n < 0) {
            return finding(SIZE);
        }
        sheet.renew(type, n);
        return n;
    }

    public int lose(int s) {
        Sheet sheet = sheetAt(s);
        if (sheet == null) {
            return BAD;
        }
        if (sheet.isLost) {
            return finding(NULL);
        }
        sheet.isLost = true;
        return sheet.length;
    }

    public int put(int s, int type, int i, int v) {
        Sheet sheet = sheetAt(s);
        if (sheet == null || !isType(type)) {
            return BAD;
        }
        int found = sheet.findingAt(type, i);
        if (found != 0) {
            return finding(found);
        }
        sheet.store(i, v);
        return 1;
    }

    public int get(int s, int type, int i) {
        Sheet sheet = sheetAt(s);
        if (sheet == null || !isType(type)) {
            return LEAST_INT;
        }
        int found = sheet.findingAt(type, i);
        if (found != 0) {
            latestFinding = found;
            return LEAST_INT;
        }
        return sheet.items[i];
    }

    public int copy(int s, int i, int t, int j, int n) {
        Sheet from = sheetAt(s);
        Sheet to = sheetAt(t);
        if (from == null || to == null) {
            return BAD;
        }
        if (from.isLost || to.isLost) {
            return finding(NULL);
        }
        if (from.type != to.type) {
            return finding(STORE);
        }
        if (!from.hasItems(i, n) || !to.hasItems(j, n)) {
            return finding(INDEX);
        }
        System.arraycopy(from.items, i, to.items, j, n);
        return 1;
    }

    public int write(int counter, int s) {
        Counter it = counterAt(counter);
        Sheet sheet = sheetAt(s);
        if (it == null || sheet == null) {
            return BAD;
        }
        if (sheet.isLost) {
            return finding(NULL);
        }
        int n = Math.min(it.length, sheet.length);
        System.arraycopy(it.events, 0, sheet.items, 0, n);
        return n;
    }

    public int count(int what) {
        switch (what) {
            case 0: return countBytes();
            case 1: return counterCount;
            case 2: return countLogged();
            case 3: return countShort();
            case 4: return paid.size;
            case 5: return court.size;
            case 6: return Integer.bitCount(court.grounds);
            case 7: return paid.interest;
            case 8: return latestFinding;
            default: return BAD;
        }
    }

    public long digest() {
        long h = 17;
        for (int what = 0; what <= 7; what++) {
            h = 31 * h + count(what);
        }
        for (int v = 0; v < VERSIONS; v++) {
            h = 31 * h + fault(v);
            for (int line = 0; line < LINES; line++) {
                h = 31 * h + acts(v, line);
            }
        }
        for (int c = 0; c < counterCount; c++) {
            for (int what = 0; what <= 8; what++) {
                h = 31 * h + about(c, what);
            }
        }
        h = 31 * h + standing();
        return 31 * h + owedOn(NONE, LAST_DAY);
    }

    private Sheet sheetAt(int s) {
        return s < 0 || s >= SHEETS ? null : sheets[s];
    }

    private static boolean isType(int type) {
        return type >= 0 && type < TYPES;
    }

    private int finding(int number) {
        latestFinding = number;
        return -10 - number;
    }

    private int countBytes() {
        int sum = 0;
        for (int v = 0; v < VERSIONS; v++) {
            Version text = versionAt(v);
            sum += text == null ? 0 : text.length;
        }
        return sum;
    }

    private int countLogged() {
        int sum = 0;
        for (int c = 0; c < counterCount; c++) {
            Counter it = counterAt(c);
            sum += it == null ? 0 : it.length;
        }
        return sum;
    }

    private int countShort() {
        int sum = 0;
        for (int c = 0; c < counterCount; c++) {
            Counter it = counterAt(c);
            sum += it != null && it.isShort() ? 1 : 0;
        }
        return sum;
    }

    /** A VERSION: its text and, once it has been read, what it tells of each LINE. */
    private static final class Version {
        private static final String EVENT_LETTERS = "srkdaxtb", REGISTERS = "lpc", SIGNS = "+-=";
        // What the next byte has to be; SET_VALUE and SET_MODE are the last byte of an ACT.
        private static final int EVENT = 0, MODE = 1, COLON = 2, ACT = 3, SIGN = 4, SET_VALUE = 5, SET_MODE = 6,
            BEHIND_ACT = 7;
        // An ACT as one int: its kind (PLUS, MINUS, EQUAL in the order of SIGNS, or NEW_MODE), the REGISTER
        // that it sets, and a figure (0 to 9), a REGISTER (10 to 12) or a MODE.
        private static final int PLUS = 0, MINUS = 1, NEW_MODE = 3, FIRST_REGISTER = 10;

        private final int[] text = new int[MOST_BYTES];
        private final int[] codes = new int[MOST_BYTES];
        private final int[] firstCode = new int[LINES];
        private final int[] actCount = new int[LINES];
        private final int[] actsFrom = new int[LINES];
        private final int[] actsTo = new int[LINES];
        private int length = 0;
        private int faultPlace = NONE;
        private int revision = 0;
        private boolean isRead = true;

        int append(int b) {
            if (length >= MOST_BYTES) {
                return FULL;
            }
            text[length] = b;
            length++;
            isRead = false;
            revision++;
            return length;
        }

        int empty() {
            int had = length;
            length = 0;
            isRead = false;
            revision++;
            return had;
        }

        void read() {
            if (isRead) {
                return;
            }
            isRead = true;
            Arrays.fill(actCount, 0);
            Arrays.fill(actsFrom, 0);
            Arrays.fill(actsTo, 0);
            faultPlace = findFault();
            if (faultPlace == NONE) {
                readLines();
            }
        }

        /** Whether the ACTS of a LINE and of another's are the same text. */
        boolean tellsAlike(int line, Version other, int otherLine) {
            int begin = actsFrom[line];
            int otherBegin = other.actsFrom[otherLine];
            int size = actsTo[line] - begin;
            if (other.actsTo[otherLine] - otherBegin != size) {
                return false;
            }
            for (int i = 0; i < size; i++) {
                if (text[begin + i] != other.text[otherBegin + i]) {
                    return false;
                }
            }
            return true;
        }

        private int findFault() {
            int step = EVENT;
            for (int i = 0; i < length; i++) {
                step = stepBehind(step, text[i]);
                if (step == NONE) {
                    return i;
                }
            }
            return length == 0 || step == BEHIND_ACT ? NONE : length;
        }

        /** What has to come behind a byte, where such a step was due; NONE: the text cannot go on with it. */
        private static int stepBehind(int step, int b) {
            boolean isMode = b == '0' || b == '1';
            boolean isRegister = REGISTERS.indexOf((char) b) >= 0;
            switch (step) {
                case EVENT: return EVENT_LETTERS.indexOf((char) b) >= 0 ? MODE : NONE;
                case MODE: return isMode ? COLON : NONE;
                case COLON: return b == ':' ? ACT : NONE;
                case ACT: return isRegister ? SIGN : b == 'm' ? SET_MODE : NONE;
                case SIGN: return SIGNS.indexOf((char) b) >= 0 ? SET_VALUE : NONE;
                case SET_VALUE: return isRegister || b >= '0' && b <= '9' ? BEHIND_ACT : NONE;
                case SET_MODE: return isMode ? BEHIND_ACT : NONE;
                default: return b == ',' ? ACT : b == ';' ? EVENT : NONE;
            }
        }

        /** Reads a text without a FAULT: a later part of a LINE takes the place of an earlier one. */
        private void readLines() {
            int step = EVENT;
            int line = 0;
            int begun = 0;
            int used = 0;
            for (int i = 0; i < length; i++) {
                int b = text[i];
                switch (step) {
                    case EVENT: line = (EVENT_LETTERS.indexOf((char) b) & 7) << 1; break;
                    case MODE: line |= b & 1; break;
                    case COLON:
                        actCount[line] = 0;
                        firstCode[line] = used;
                        actsFrom[line] = i + 1;
                        break;
                    case ACT: begun = b == 'm' ? NEW_MODE << 6 : (REGISTERS.indexOf((char) b) & 3) << 4; break;
                    case SIGN: begun |= SIGNS.indexOf((char) b) << 6; break;
                    case SET_VALUE:
                    case SET_MODE:
                        codes[used] = begun | valueOf(b);
                        used++;
                        actCount[line]++;
                        actsTo[line] = i + 1;
                        break;
                    default: break;
                }
                step = stepBehind(step, b);
            }
        }

        private static int valueOf(int b) {
            int register = REGISTERS.indexOf((char) b);
            return register >= 0 ? FIRST_REGISTER + register : b - '0' & 15;
        }
    }

    /** A MIX of two VERSIONS: what an EVENT does to a STATE. */
    private static final class Mix {
        // One more than there are, so that two bits of an ACT are always an index.
        private final int[] registers = new int[4];
        private Version first;
        private Version second;
        private int secondLines = 0;

        Mix(Version one) {
            first = one;
            second = one;
        }

        void set(Version one, Version other, int lines) {
            one.read();
            other.read();
            first = one;
            second = other;
            secondLines = lines;
        }

        int lineOf(int state, int event) {
            return (event & 7) << 1 | state >> 24 & 1;
        }

        int after(int state, int event) {
            int line = lineOf(state, event);
            Version text = (secondLines >> line & 1) == 1 ? second : first;
            if (text.actCount[line] == 0) {
                return state;
            }
            registers[0] = (state >> 16 & 255) - REGISTER_LIMIT;
            registers[1] = (state >> 8 & 255) - REGISTER_LIMIT;
            registers[2] = (state & 255) - REGISTER_LIMIT;
            int mode = modeOf(state);
            int end = Math.min(text.firstCode[line] + text.actCount[line], MOST_BYTES);
            for (int k = text.firstCode[line]; k < end; k++) {
                int code = text.codes[k];
                if (code >> 6 == Version.NEW_MODE) {
                    mode = code & 1;
                } else {
                    act(code);
                }
            }
            return mode << 24 | registers[0] + REGISTER_LIMIT << 16 | registers[1] + REGISTER_LIMIT << 8
                | registers[2] + REGISTER_LIMIT;
        }

        private void act(int code) {
            int target = code >> 4 & 3;
            int value = code & 15;
            if (value >= Version.FIRST_REGISTER) {
                value = registers[value - Version.FIRST_REGISTER & 3];
            }
            if (code >> 6 == Version.PLUS) {
                value = registers[target] + value;
            } else if (code >> 6 == Version.MINUS) {
                value = registers[target] - value;
            }
            registers[target] = value > REGISTER_LIMIT ? REGISTER_LIMIT
                : value < -REGISTER_LIMIT ? -REGISTER_LIMIT : value;
        }
    }

    /**
     * Looks for the shortest row that PARTS, the least of like ones: from the beginning on, a level for each
     * length, in the order of rows. A STATE (with its drawer) met before is not gone on with: whatever could
     * come behind it comes behind a row that is shorter or less.
     */
    private static final class Search {
        // Rows of up to three EVENTS are kept; the longest row has one more, and the BALANCE, behind them.
        private static final int MOST_KEPT = 1 + 8 + 64 + 512, SLOTS = 1024;

        private final int[] keys = new int[MOST_KEPT];
        private final int[] parents = new int[MOST_KEPT];
        private final int[] lastEvents = new int[MOST_KEPT];
        private final int[] slots = new int[SLOTS];
        private final int[] row = new int[LONGEST_PARTING];
        private int kept = 0;

        /** How long the row found is, which stands in row then; NONE: none so long or shorter PARTS. */
        int find(Mix mix, int longest) {
            Arrays.fill(slots, 0);
            kept = 0;
            int start = keyOf(BEGINNING, 0);
            keep(slotOf(start), start, 0, 0);
            if (partsByBalance(mix, BEGINNING, 0)) {
                row[0] = BALANCE;
                return 1;
            }
            int levelBegin = 0;
            for (int length = 2; length <= longest; length++) {
                int levelEnd = kept;
                for (int node = levelBegin; node < levelEnd; node++) {
                    int event = goOnFrom(mix, node, length < longest);
                    if (event != NONE) {
                        tellRow(node, event, length);
                        return length;
                    }
                }
                levelBegin = levelEnd;
            }
            return NONE;
        }

        /** LINES by which the EVENTS of the row found go. */
        int linesOfRow(Mix mix, int length) {
            int state = BEGINNING;
            int lines = 0;
            for (int i = 0; i < length && i < LONGEST_PARTING; i++) {
                lines |= 1 << mix.lineOf(state, row[i]);
                state = mix.after(state, row[i]);
            }
            return lines;
        }

        /** The first EVENT behind a kept row with which, and a BALANCE behind it, it PARTS; NONE. */
        private int goOnFrom(Mix mix, int node, boolean keepsOn) {
            for (int event = 0; event < EVENTS; event++) {
                int state = mix.after(stateOf(keys[node]), event);
                int drawer = drawerOf(keys[node]) + coinsOf(event);
                int key = keyOf(state, drawer);
                int slot = slotOf(key);
                if (slots[slot] != 0) {
                    continue;
                }
                if (partsByBalance(mix, state, drawer)) {
                    return event;
                }
                if (keepsOn) {
                    keep(slot, key, node, event);
                }
            }
            return NONE;
        }

        private static boolean partsByBalance(Mix mix, int state, int drawer) {
            return ledgerOf(mix.after(state, BALANCE)) != drawer;
        }

        private void tellRow(int node, int event, int length) {
            row[length - 1] = BALANCE;
            row[length - 2] = event;
            int at = node;
            for (int i = length - 3; i >= 0; i--) {
                row[i] = lastEvents[at];
                at = parents[at];
            }
        }

        private void keep(int slot, int key, int parent, int event) {
            if (kept >= MOST_KEPT) {
                return;
            }
            keys[kept] = key;
            parents[kept] = parent;
            lastEvents[kept] = event;
            kept++;
            slots[slot] = kept;
        }

        /** Where a key stands in slots, or would have to: slots hold 1 and the place among the kept, 0 if free. */
        private int slotOf(int key) {
            int slot = key * 0x9E3779B1 >>> 22;
            for (int tried = 0; tried < SLOTS && slots[slot] != 0 && keys[slots[slot] - 1] != key; tried++) {
                slot = slot + 1 & SLOTS - 1;
            }
            return slot;
        }

        private static int keyOf(int state, int drawer) {
            return drawer + 8 << 25 | state;
        }

        private static int stateOf(int key) {
            return key & 0x1FFFFFF;
        }

        private static int drawerOf(int key) {
            return (key >> 25) - 8;
        }
    }

    /** Finds MENDED. */
    private static final class Mender {
        private static final int RULED_OUT = -1;
        private final int[] choices = new int[1 << MOST_LINES_MENDED];

        int fewestLines(Mix mix, Search search, int unlike) {
            int size = Integer.bitCount(unlike);
            int all = tellChoices(unlike);
            for (int most = 0; most <= size; most++) {
                for (int x = 0; x < all; x++) {
                    int lines = choices[x];
                    if (Integer.bitCount(x) != most || lines == RULED_OUT) {
                        continue;
                    }
                    mix.secondLines = lines;
                    int length = search.find(mix, LONGEST_MENDED);
                    if (length == NONE) {
                        return lines;
                    }
                    ruleOut(lines, search.linesOfRow(mix, length), all);
                }
            }
            return NONE;
        }

        /** All ways to take some of these LINES, in the order of their bits; how many. */
        private int tellChoices(int unlike) {
            int all = 1;
            choices[0] = 0;
            for (int line = 0; line < LINES; line++) {
                if ((unlike >> line & 1) == 0) {
                    continue;
                }
                for (int x = 0; x < all && all + x < choices.length; x++) {
                    choices[all + x] = choices[x] | 1 << line;
                }
                all = Math.min(2 * all, choices.length);
            }
            return all;
        }

        /** A row that PARTS does so in every MIX that has the LINES by which it goes from the same VERSIONS. */
        private void ruleOut(int lines, int linesOfRow, int all) {
            for (int x = 0; x < all; x++) {
                if (choices[x] != RULED_OUT && ((choices[x] ^ lines) & linesOfRow) == 0) {
                    choices[x] = RULED_OUT;
                }
            }
        }
    }

    /** A COUNTER: its LOG, its CLAIM, what is told of it, and what was found of its FILLS. */
    private static final class Counter {
        private final int version;
        private final int[] events = new int[MOST_LOGGED];
        private int length = 0;
        private int lost = 0;
        private int drawer = 0;
        private int ledger = 0;
        private int pageCost = 10;
        private int days = 5;
        private int weight = 1;

        // How many FILLS there are, and how many of each cause, in the order of fills().
        private final int[] tally = new int[4];
        private int allCauses = 0;
        private int pagesToRead = 0;
        // The revision of the VERSION for which these were found; NONE: the COUNTER has changed since.
        private int judgedAt = NONE;

        Counter(int version) {
            this.version = version;
        }

        int takeLog(Sheet sheet, int n) {
            int had = length;
            length = Math.min(n, MOST_LOGGED);
            lost = 0;
            for (int i = 0; i < length; i++) {
                boolean isEvent = sheet.holdsEvent(i);
                events[i] = isEvent ? sheet.items[i] : NONE;
                lost += isEvent ? 0 : 1;
            }
            judgedAt = NONE;
            return had;
        }

        boolean isShort() {
            return ledger > drawer;
        }

        int told(int what) {
            switch (what) {
                case 0: return version;
                case 1: return length;
                case 2: return lost;
                case 3: return drawer;
                case 4: return ledger;
                case 5: return isShort() ? 1 : 0;
                case 6: return pageCost;
                case 7: return days;
                case 8: return weight;
                default: return NO_NUMBER;
            }
        }

        int change(int what, int v) {
            int was = BAD;
            if (what == 0 && v >= 0 && v <= 99) {
                was = pageCost;
                pageCost = v;
            } else if (what == 1 && v >= 1 && v <= 50) {
                was = days;
                days = v;
            } else if (what == 2 && v >= 0 && v <= 50) {
                was = weight;
                weight = v;
            }
            return was;
        }

        boolean hasLostFrom(int begin) {
            for (int i = Math.max(begin, 0); i < length; i++) {
                if (events[i] == NONE) {
                    return true;
                }
            }
            return false;
        }

        boolean holdsEndOf(Counter other, int k) {
            for (int begin = 0; begin + k <= length; begin++) {
                if (holdsAt(begin, other, k)) {
                    return true;
                }
            }
            return false;
        }

        private boolean holdsAt(int begin, Counter other, int k) {
            int otherBegin = other.length - k;
            if (otherBegin < 0) {
                return false;
            }
            for (int i = 0; i < k; i++) {
                if (events[begin + i] != NONE && events[begin + i] != other.events[otherBegin + i]) {
                    return false;
                }
            }
            return true;
        }
    }

    /** Finds the CAUSES of each FILL of a LOG. The last that is LOST changes first, so that what is ahead stays. */
    private static final class Filler {
        private static final int MOST_FILLS = 512, MOST_POSTED = (MOST_LOGGED + 1) * 2 * FARTHEST;
        // Sets of what is LOST, the fewest first, of like ones the least.
        private static final int[] FEWEST_FIRST = {0, 1, 2, 4, 3, 5, 6, 7};

        private final int[] row = new int[MOST_LOGGED];
        private final int[] lostAt = new int[MOST_LOST];
        // By how many EVENTS have been: the STATE without anybody's touch, and those with a row from afar.
        private final int[] plain = new int[MOST_LOGGED + 1];
        private final int[][] posted = new int[MOST_LOGGED + 1][MOST_POSTED];
        private final int[] postedCount = new int[MOST_LOGGED + 1];
        // By EVENT: the least that does the same as it in every STATE.
        private final int[] likeEvent = new int[EVENTS];
        private final byte[] causesOfFill = new byte[MOST_FILLS];
        private final byte[] causesOfCell = new byte[MOST_FILLS];
        private int length = 0;
        private int lost = 0;
        private int plainUpTo = 0;
        private int postedUpTo = 0;

        void judge(Counter it, Mix mix) {
            begin(it);
            findLikeEvents(mix.first);
            int all = 1 << 3 * lost;
            Arrays.fill(it.tally, 0);
            it.tally[0] = all;
            it.allCauses = 0;
            for (int fill = 0; fill < all; fill++) {
                int like = likeFill(fill);
                int found = like < fill ? causesOfFill[like] : causesOfRow(fill, it, mix);
                causesOfFill[fill] = (byte) found;
                it.allCauses |= found;
                it.tally[1] += found & 1;
                it.tally[2] += found >> 1 & 1;
                it.tally[3] += found >> 2 & 1;
            }
            it.pagesToRead = fewestPages(all);
        }

        private void begin(Counter it) {
            length = it.length;
            lost = 0;
            for (int i = 0; i < length; i++) {
                row[i] = it.events[i];
                if (row[i] == NONE && lost < MOST_LOST) {
                    lostAt[lost] = i;
                    lost++;
                }
            }
            plain[0] = BEGINNING;
            plainUpTo = 0;
            postedCount[0] = 0;
            postFromAfar(0);
            postedUpTo = 0;
        }

        /** EVENTS that move the same coins and are told alike in both MODES do the same. */
        private void findLikeEvents(Version text) {
            for (int event = 0; event < EVENTS; event++) {
                int like = 0;
                while (like < event && !(coinsOf(like) == coinsOf(event)
                    && text.tellsAlike(2 * like, text, 2 * event)
                    && text.tellsAlike(2 * like + 1, text, 2 * event + 1))) {
                    like++;
                }
                likeEvent[event] = like;
            }
        }

        /** The least FILL that has like EVENTS: it has the same CAUSES, and they have been found already. */
        private int likeFill(int fill) {
            int like = 0;
            for (int shift = 0; shift < 3 * lost; shift += 3) {
                like |= likeEvent[fill >> shift & 7] << shift;
            }
            return like;
        }

        private int shiftOf(int whichLost) {
            return 3 * (lost - 1 - whichLost);
        }

        private void give(int fill) {
            for (int i = 0; i < lost; i++) {
                int event = fill >> shiftOf(i) & 7;
                if (row[lostAt[i]] != event) {
                    row[lostAt[i]] = event;
                    plainUpTo = Math.min(plainUpTo, lostAt[i]);
                    postedUpTo = Math.min(postedUpTo, lostAt[i]);
                }
            }
        }

        private int causesOfRow(int fill, Counter it, Mix mix) {
            give(fill);
            int above = -it.drawer;
            for (int i = 0; i < length; i++) {
                above += coinsOf(row[i]);
            }
            // No cause moves more than a coin, and none but a hand moves any.
            if (above < -1 || above > 1) {
                return 0;
            }
            runPlain(mix);
            boolean isLedger = ledgerOf(plain[length]) == it.ledger;
            if (above != 0) {
                return isLedger ? BY_A_HAND : 0;
            }
            runPosted(mix);
            return (isLedger ? CLEAR : 0) | (isPostedTo(it.ledger) ? FROM_AFAR : 0);
        }

        private void runPlain(Mix mix) {
            for (int i = plainUpTo; i < length; i++) {
                plain[i + 1] = mix.after(plain[i], row[i]);
            }
            plainUpTo = length;
        }

        private void runPosted(Mix mix) {
            for (int i = postedUpTo; i < length; i++) {
                postedCount[i + 1] = 0;
                for (int k = 0; k < postedCount[i]; k++) {
                    addPosted(i + 1, mix.after(posted[i][k], row[i]));
                }
                postFromAfar(i + 1);
            }
            postedUpTo = length;
        }

        private void postFromAfar(int i) {
            int ledger = ledgerOf(plain[i]);
            for (int n = 1; n <= FARTHEST; n++) {
                int less = Math.max(ledger - n, -REGISTER_LIMIT);
                int more = Math.min(ledger + n, REGISTER_LIMIT);
                addPosted(i, plain[i] + less - ledger);
                addPosted(i, plain[i] + more - ledger);
            }
        }

        /** Like STATES go on alike: one of them is enough. */
        private void addPosted(int i, int state) {
            int size = postedCount[i];
            for (int k = 0; k < size; k++) {
                if (posted[i][k] == state) {
                    return;
                }
            }
            if (size < MOST_POSTED) {
                posted[i][size] = state;
                postedCount[i]++;
            }
        }

        private boolean isPostedTo(int ledger) {
            for (int k = 0; k < postedCount[length]; k++) {
                if (ledgerOf(posted[length][k]) == ledger) {
                    return true;
                }
            }
            return false;
        }

        private int fewestPages(int all) {
            for (int i = 0; i < FEWEST_FIRST.length; i++) {
                if (FEWEST_FIRST[i] < 1 << lost && settles(FEWEST_FIRST[i], all)) {
                    return FEWEST_FIRST[i];
                }
            }
            return 0;
        }

        private boolean settles(int pages, int all) {
            int mask = 0;
            for (int i = 0; i < lost; i++) {
                mask |= (pages >> i & 1) * 7 << shiftOf(i);
            }
            Arrays.fill(causesOfCell, (byte) 0);
            for (int fill = 0; fill < all; fill++) {
                byte found = causesOfFill[fill];
                byte others = causesOfCell[fill & mask];
                if (found != 0 && others != 0 && found != others) {
                    return false;
                }
                if (found != 0) {
                    causesOfCell[fill & mask] = found;
                }
            }
            return true;
        }
    }

    /** What keepers have PAID. */
    private static final class Paid {
        private final int[] payers = new int[MOST_PAID];
        private final int[] paidOn = new int[MOST_PAID];
        private final int[] paidCoins = new int[MOST_PAID];
        private int size = 0;
        private int interest = 1;

        int add(int payer, int day, int coins) {
            if (size >= MOST_PAID) {
                return FULL;
            }
            payers[size] = payer;
            paidOn[size] = day;
            paidCoins[size] = coins;
            size++;
            return size;
        }

        boolean hasAny(int payer, int day) {
            for (int i = 0; i < size; i++) {
                if (payers[i] == payer && paidOn[i] <= day) {
                    return true;
                }
            }
            return false;
        }

        int withInterest(int payer, int day) {
            int sum = 0;
            for (int i = 0; i < size; i++) {
                if (payers[i] == payer && paidOn[i] <= day) {
                    int tensOver = (day - paidOn[i]) / 10;
                    sum += paidCoins[i] + paidCoins[i] * interest * tensOver / 1000;
                }
            }
            return sum;
        }
    }

    /** GROUNDS and the JUDGMENTS that stand on them. */
    private static final class Court {
        private final int[] allOf = new int[JUDGMENTS];
        private final int[] oneOf = new int[JUDGMENTS];
        private int size = 0;
        private int grounds = (1 << GROUNDS) - 1;

        int add(int all, int one) {
            if (size >= JUDGMENTS) {
                return FULL;
            }
            allOf[size] = all;
            oneOf[size] = one;
            size++;
            return size - 1;
        }

        /** JUDGMENTS that come to stand one after another, where just these GROUNDS do. */
        int ledBackTo(int groundsThatStand) {
            int held = groundsThatStand;
            int before = NONE;
            for (int round = 0; round <= JUDGMENTS && held != before; round++) {
                before = held;
                for (int j = 0; j < size; j++) {
                    if ((allOf[j] & ~held) == 0 && (oneOf[j] == 0 || (oneOf[j] & held) != 0)) {
                        held |= 1 << GROUNDS + j;
                    }
                }
            }
            return held >> GROUNDS;
        }
    }

    /** A SHEET: LOST, or a row of a TYPE. Its items are kept as ints; a store cuts them to what the TYPE has. */
    private static final class Sheet {
        private final int[] items = new int[MOST_ITEMS];
        private boolean isLost = true;
        private int type = 0;
        private int length = 0;

        void renew(int newType, int n) {
            Arrays.fill(items, 0);
            isLost = false;
            type = newType;
            length = Math.min(n, MOST_ITEMS);
        }

        int findingAt(int asType, int i) {
            if (isLost) {
                return NULL;
            }
            if (asType != type) {
                return CAST;
            }
            return i < 0 || i >= length ? INDEX : 0;
        }

        void store(int i, int v) {
            if (i >= 0 && i < length) {
                items[i] = type == 0 ? (byte) v : type == 1 ? (short) v : v;
            }
        }

        boolean hasItems(int begin, int n) {
            return begin >= 0 && n >= 0 && n <= length && begin <= length - n;
        }

        boolean holdsEvent(int i) {
            return i >= 0 && i < length && items[i] >= 0 && items[i] < EVENTS;
        }

        int countEvents(int n) {
            int events = 0;
            for (int i = 0; i < n; i++) {
                events += holdsEvent(i) ? 1 : 0;
            }
            return events;
        }
    }
}
