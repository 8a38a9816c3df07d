import java.util.ArrayList;
import java.util.Arrays;
import java.util.LinkedHashMap;
import java.util.List;
import java.util.Map;
import java.util.regex.Matcher;
import java.util.regex.Pattern;

/**
 * The document once more, told as plainly as can be and by other means than TrueLedger's: texts by patterns,
 * rows by trying them all, nothing kept from one call to the next. ModelTest holds TrueLedger against it.
 */
final class PlainModel {
    static final int NONE = -1, BAD = -2, NOT = -3, FULL = -4;
    private static final String ACT = "(?:[lpc][-+=][0-9lpc]|m[01])";
    private static final String PART = "[srkdaxtb][01]:" + ACT + "(?:," + ACT + ")*";
    private static final Pattern TEXT = Pattern.compile("(?:" + PART + "(?:;" + PART + ")*)?", Pattern.DOTALL);

    static final class State {
        int[] registers = new int[3];
        int mode;
        int drawer;

        void addToLedger(int n) {
            registers[2] = kept(registers[2] + n);
        }
    }

    static final class Shop {
        int version;
        List<Integer> log = new ArrayList<>();
        int drawer, ledger, page = 10, days = 5, weight = 1;
    }

    static final class Row {
        int type;
        int[] items;
    }

    final StringBuilder[] texts = new StringBuilder[4];
    final List<Shop> shops = new ArrayList<>();
    final Row[] sheets = new Row[4];
    final List<int[]> payments = new ArrayList<>();
    final List<int[]> judgments = new ArrayList<>();
    final boolean[] grounds = new boolean[8];
    int interest = 1;
    int finding = 0;

    PlainModel() {
        for (int v = 0; v < 4; v++) {
            texts[v] = new StringBuilder();
        }
        Arrays.fill(grounds, true);
    }

    static int kept(int v) {
        return Math.max(-99, Math.min(99, v));
    }

    static boolean in(int v, int least, int most) {
        return v >= least && v <= most;
    }

    int found(int number) {
        finding = number;
        return -10 - number;
    }

    // ---- versions

    int type(int version, int b) {
        if (!in(version, 0, 3) || !in(b, 0, 255)) return BAD;
        if (texts[version].length() == 120) return FULL;
        texts[version].append((char) b);
        return texts[version].length();
    }

    int wipe(int version) {
        if (!in(version, 0, 3)) return BAD;
        int had = texts[version].length();
        texts[version].setLength(0);
        return had;
    }

    int fault(int version) {
        if (!in(version, 0, 3)) return BAD;
        String text = texts[version].toString();
        if (TEXT.matcher(text).matches()) return NONE;
        for (int n = 1; n <= text.length(); n++) {
            Matcher m = TEXT.matcher(text.substring(0, n));
            if (!m.matches() && !m.hitEnd()) return n - 1;
        }
        return text.length();
    }

    /** The texts of ACTS by LINE. */
    Map<Integer, String> lines(int version) {
        Map<Integer, String> lines = new LinkedHashMap<>();
        String text = texts[version].toString();
        if (fault(version) != NONE || text.isEmpty()) return lines;
        for (String part : text.split(";")) {
            lines.put(2 * "srkdaxtb".indexOf(part.charAt(0)) + part.charAt(1) - '0', part.substring(3));
        }
        return lines;
    }

    int acts(int version, int line) {
        if (!in(version, 0, 3) || !in(line, 0, 15)) return BAD;
        String told = lines(version).get(line);
        return told == null ? 0 : told.split(",").length;
    }

    int differ(int version, int other) {
        if (!in(version, 0, 3) || !in(other, 0, 3)) return BAD;
        int bits = 0;
        for (int line = 0; line < 16; line++) {
            String a = lines(version).getOrDefault(line, "");
            if (!a.equals(lines(other).getOrDefault(line, ""))) bits |= 1 << line;
        }
        return bits;
    }

    /** What each LINE of a MIX does, as ACTS one by one. */
    String[][] mix(int version, int other, int bits) {
        Map<Integer, String> first = lines(version), second = lines(other);
        String[][] mix = new String[16][];
        for (int line = 0; line < 16; line++) {
            String told = ((bits >> line & 1) == 1 ? second : first).getOrDefault(line, "");
            mix[line] = told.isEmpty() ? new String[0] : told.split(",");
        }
        return mix;
    }

    static void step(State state, String[][] mix, int event) {
        if (event == 0) state.drawer++;
        if (event == 1) state.drawer--;
        for (String act : mix[2 * event + state.mode]) {
            if (act.charAt(0) == 'm') {
                state.mode = act.charAt(1) - '0';
                continue;
            }
            int target = "lpc".indexOf(act.charAt(0));
            int from = "lpc".indexOf(act.charAt(2));
            int value = from < 0 ? act.charAt(2) - '0' : state.registers[from];
            int now = state.registers[target];
            state.registers[target] = kept(act.charAt(1) == '+' ? now + value : act.charAt(1) == '-' ? now - value : value);
        }
    }

    static boolean parts(String[][] mix, int[] row) {
        State state = new State();
        for (int event : row) step(state, mix, event);
        return row.length > 0 && row[row.length - 1] == 7 && state.registers[2] != state.drawer;
    }

    int run(int version, int other, int lines, int s, int n, int what) {
        if (!in(version, 0, 3) || !in(other, 0, 3) || !in(lines, 0, 65535) || !in(s, 0, 3) || !in(n, 0, 40)
            || !in(what, 0, 5)) return -1000;
        if (sheets[s] == null) { found(1); return -1000; }
        if (n > sheets[s].items.length) { found(2); return -1000; }
        int[] row = Arrays.copyOf(sheets[s].items, n);
        for (int event : row) if (!in(event, 0, 7)) return -1000;
        String[][] mix = mix(version, other, lines);
        State state = new State();
        for (int event : row) step(state, mix, event);
        return what < 3 ? state.registers[what] : what == 3 ? state.mode : what == 4 ? state.drawer
            : parts(mix, row) ? 1 : 0;
    }

    /** The first row of the shortest that part, all rows of a length tried in order. */
    static int[] leastParting(String[][] mix, int longest) {
        for (int length = 1; length <= longest; length++) {
            for (int number = 0; number < 1 << 3 * length; number++) {
                int[] row = new int[length];
                for (int i = 0; i < length; i++) row[i] = number >> 3 * (length - 1 - i) & 7;
                if (row[length - 1] == 7 && parts(mix, row)) return row;
            }
        }
        return null;
    }

    int parting(int version, int other, int lines) {
        if (!in(version, 0, 3) || !in(other, 0, 3) || !in(lines, 0, 65535)) return BAD;
        int[] row = leastParting(mix(version, other, lines), 5);
        return row == null ? NONE : row.length;
    }

    int event(int version, int other, int lines, int i) {
        if (!in(version, 0, 3) || !in(other, 0, 3) || !in(lines, 0, 65535) || i < 0) return BAD;
        int[] row = leastParting(mix(version, other, lines), 5);
        return row == null || i >= row.length ? NONE : row[i];
    }

    int mended(int version, int other) {
        int differ = differ(version, other);
        if (differ == BAD) return BAD;
        if (Integer.bitCount(differ) > 8) return FULL;
        int best = NONE;
        for (int bits = 0; bits <= differ; bits++) {
            if ((bits & ~differ) != 0) continue;
            if (best != NONE && Integer.bitCount(bits) >= Integer.bitCount(best)) continue;
            if (leastParting(mix(version, other, bits), 4) == null) best = bits;
        }
        return best;
    }

    // ---- counters

    boolean isShop(int counter) {
        return in(counter, 0, shops.size() - 1);
    }

    int counter(int version) {
        if (!in(version, 0, 3)) return BAD;
        if (shops.size() == 12) return FULL;
        Shop shop = new Shop();
        shop.version = version;
        shops.add(shop);
        return shops.size() - 1;
    }

    int log(int counter, int s, int n) {
        if (!isShop(counter) || !in(s, 0, 3) || !in(n, 0, 12)) return BAD;
        if (sheets[s] == null) return found(1);
        if (n > sheets[s].items.length) return found(2);
        List<Integer> log = new ArrayList<>();
        for (int i = 0; i < n; i++) log.add(in(sheets[s].items[i], 0, 7) ? sheets[s].items[i] : NONE);
        if (lostAt(log).size() > 3) return NOT;
        int had = shops.get(counter).log.size();
        shops.get(counter).log = log;
        return had;
    }

    static List<Integer> lostAt(List<Integer> log) {
        List<Integer> at = new ArrayList<>();
        for (int i = 0; i < log.size(); i++) if (log.get(i) == NONE) at.add(i);
        return at;
    }

    int claim(int counter, int drawer, int ledger) {
        if (!isShop(counter) || !in(drawer, -99, 99) || !in(ledger, -99, 99)) return BAD;
        shops.get(counter).drawer = drawer;
        shops.get(counter).ledger = ledger;
        return 1;
    }

    int about(int counter, int what) {
        if (!isShop(counter) || !in(what, 0, 8)) return -1000;
        Shop shop = shops.get(counter);
        int[] told = {shop.version, shop.log.size(), lostAt(shop.log).size(), shop.drawer, shop.ledger,
            shop.ledger > shop.drawer ? 1 : 0, shop.page, shop.days, shop.weight};
        return told[what];
    }

    int tell(int counter, int what, int v) {
        if (!isShop(counter) || !in(what, 0, 2)) return BAD;
        Shop shop = shops.get(counter);
        int was = what == 0 ? shop.page : what == 1 ? shop.days : shop.weight;
        if (!in(v, what == 1 ? 1 : 0, what == 0 ? 99 : 50)) return BAD;
        if (what == 0) shop.page = v; else if (what == 1) shop.days = v; else shop.weight = v;
        return was;
    }

    int logged(int counter, int i) {
        return !isShop(counter) || !in(i, 0, shops.get(counter).log.size() - 1) ? BAD : shops.get(counter).log.get(i);
    }

    /** The CAUSES of each FILL; the EVENT of the first that is LOST is in the lowest three bits of its number. */
    int[] causesOfFills(Shop shop) {
        String[][] mix = mix(shop.version, shop.version, 0);
        List<Integer> lost = lostAt(shop.log);
        int[] causes = new int[1 << 3 * lost.size()];
        for (int fill = 0; fill < causes.length; fill++) {
            int[] row = new int[shop.log.size()];
            for (int i = 0; i < row.length; i++) row[i] = shop.log.get(i);
            for (int b = 0; b < lost.size(); b++) row[lost.get(b)] = fill >> 3 * b & 7;
            causes[fill] = ends(shop, mix, row, 0, 0, 0) ? 1 : 0;
            for (int behind = 0; behind <= row.length; behind++) {
                for (int n = -3; n <= 3; n++) {
                    if (n == 0) continue;
                    if (ends(shop, mix, row, behind, 0, n)) causes[fill] |= 4;
                    if (Math.abs(n) == 1 && ends(shop, mix, row, behind, n, 0)) causes[fill] |= 2;
                }
            }
        }
        return causes;
    }

    static boolean ends(Shop shop, String[][] mix, int[] row, int behind, int coins, int posted) {
        State state = new State();
        for (int i = 0; i <= row.length; i++) {
            if (i == behind) {
                state.drawer += coins;
                state.addToLedger(posted);
            }
            if (i < row.length) step(state, mix, row[i]);
        }
        return state.drawer == shop.drawer && state.registers[2] == shop.ledger;
    }

    int fills(int counter, int what) {
        if (!isShop(counter) || !in(what, 0, 3)) return BAD;
        int n = 0;
        for (int causes : causesOfFills(shops.get(counter))) if (what == 0 || (causes >> what - 1 & 1) == 1) n++;
        return n;
    }

    int causes(int counter) {
        if (!isShop(counter)) return BAD;
        int all = 0;
        for (int causes : causesOfFills(shops.get(counter))) all |= causes;
        return all;
    }

    int settling(int counter, int what) {
        if (!isShop(counter) || !in(what, 0, 1)) return BAD;
        if (causes(counter) == 0) return NOT;
        int[] causes = causesOfFills(shops.get(counter));
        int lost = lostAt(shops.get(counter).log).size();
        int best = (1 << lost) - 1;
        for (int pages = 0; pages < 1 << lost; pages++) {
            if (Integer.bitCount(pages) < Integer.bitCount(best) && settles(causes, pages, lost)) best = pages;
        }
        return what == 0 ? best : Integer.bitCount(best) * shops.get(counter).page;
    }

    static boolean settles(int[] causes, int pages, int lost) {
        int mask = 0;
        for (int b = 0; b < lost; b++) if ((pages >> b & 1) == 1) mask |= 7 << 3 * b;
        for (int f = 0; f < causes.length; f++) {
            for (int g = 0; g < f; g++) {
                if ((f & mask) == (g & mask) && causes[f] != 0 && causes[g] != 0 && causes[f] != causes[g]) return false;
            }
        }
        return true;
    }

    int like(int counter, int k) {
        if (!isShop(counter) || !in(k, 1, 12) || k > shops.get(counter).log.size()) return BAD;
        Shop shop = shops.get(counter);
        List<Integer> end = shop.log.subList(shop.log.size() - k, shop.log.size());
        if (end.contains(NONE)) return NOT;
        int bits = 0;
        for (int c = 0; c < shops.size(); c++) {
            if (c == counter || shops.get(c).version != shop.version) continue;
            StringBuilder pattern = new StringBuilder();
            StringBuilder log = new StringBuilder();
            for (int event : end) pattern.append("[").append(event).append("?]");
            for (int event : shops.get(c).log) log.append(event == NONE ? "?" : "" + event);
            if (Pattern.compile(pattern.toString()).matcher(log).find()) bits |= 1 << c;
        }
        return bits;
    }

    // ---- paid, owed

    int pay(int counter, int day, int coins) {
        if (!isShop(counter) || !in(day, 0, 399) || !in(coins, 1, 1000)) return BAD;
        if (payments.size() == 40) return FULL;
        payments.add(new int[] {counter, day, coins});
        return payments.size();
    }

    int interest(int i) {
        if (!in(i, 0, 100)) return BAD;
        int was = interest;
        interest = i;
        return was;
    }

    int owed(int counter, int day) {
        if (counter != NONE && !isShop(counter) || !in(day, 0, 399)) return BAD;
        int sum = 0;
        for (int[] payment : payments) {
            if (counter != NONE && payment[0] != counter || payment[1] > day) continue;
            if (about(payment[0], 5) == 0 || (causes(payment[0]) & 1) == 0) continue;
            sum += payment[2] + payment[2] * interest * ((day - payment[1]) / 10) / 1000;
        }
        return sum;
    }

    // ---- judgments

    int judgment(int all, int one) {
        if (!in(all, 0, (1 << 24) - 1) || !in(one, 0, (1 << 24) - 1)) return BAD;
        if (judgments.size() == 16) return FULL;
        judgments.add(new int[] {all, one});
        return judgments.size() - 1;
    }

    int ground(int ground, boolean stands) {
        if (!in(ground, 0, 7)) return BAD;
        int changed = grounds[ground] == stands ? 0 : 1;
        grounds[ground] = stands;
        return changed;
    }

    int standing() {
        boolean[] stands = Arrays.copyOf(grounds, 8 + 24);
        for (boolean more = true; more;) {
            more = false;
            for (int j = 0; j < judgments.size(); j++) {
                boolean all = true, one = judgments.get(j)[1] == 0;
                for (int b = 0; b < 24; b++) {
                    if ((judgments.get(j)[0] >> b & 1) == 1 && !stands[b]) all = false;
                    if ((judgments.get(j)[1] >> b & 1) == 1 && stands[b]) one = true;
                }
                if (all && one && !stands[8 + j]) more = stands[8 + j] = true;
            }
        }
        int bits = 0;
        for (int j = 0; j < judgments.size(); j++) if (stands[8 + j]) bits |= 1 << j;
        return bits;
    }

    int falling(int ground) {
        if (!in(ground, 0, 7)) return BAD;
        int before = standing();
        boolean stood = grounds[ground];
        grounds[ground] = false;
        int after = standing();
        grounds[ground] = stood;
        return before & ~after;
    }

    // ---- looking

    int order(int bits, int i) {
        if (!in(bits, 0, (1 << shops.size()) - 1) || Integer.bitCount(bits) > 8
            || !in(i, NONE, Integer.bitCount(bits) - 1)) return BAD;
        List<Integer> best = new ArrayList<>();
        int cost = leastCost(bits, 0, best);
        return i == NONE ? cost : best.get(i);
    }

    /** Tries each COUNTER first, the least first, and all orders of the others behind it. */
    int leastCost(int bits, int day, List<Integer> order) {
        int least = bits == 0 ? 0 : Integer.MAX_VALUE;
        for (int c = 0; c < shops.size(); c++) {
            if ((bits >> c & 1) == 0) continue;
            List<Integer> rest = new ArrayList<>();
            int end = day + shops.get(c).days;
            int cost = end * shops.get(c).weight + leastCost(bits & ~(1 << c), end, rest);
            if (cost < least) {
                least = cost;
                order.clear();
                order.add(c);
                order.addAll(rest);
            }
        }
        return least;
    }

    // ---- sheets

    int sheet(int s, int type, int n) {
        if (!in(s, 0, 3) || !in(type, 0, 2) || n > 40) return BAD;
        if (n < 0) return found(5);
        sheets[s] = new Row();
        sheets[s].type = type;
        sheets[s].items = new int[n];
        return n;
    }

    int lose(int s) {
        if (!in(s, 0, 3)) return BAD;
        if (sheets[s] == null) return found(1);
        int had = sheets[s].items.length;
        sheets[s] = null;
        return had;
    }

    int put(int s, int type, int i, int v) {
        if (!in(s, 0, 3) || !in(type, 0, 2)) return BAD;
        if (sheets[s] == null) return found(1);
        if (sheets[s].type != type) return found(3);
        if (!in(i, 0, sheets[s].items.length - 1)) return found(2);
        int bits = type == 0 ? 24 : type == 1 ? 16 : 0;
        sheets[s].items[i] = v << bits >> bits;
        return 1;
    }

    int get(int s, int type, int i) {
        if (!in(s, 0, 3) || !in(type, 0, 2)) return Integer.MIN_VALUE;
        int found = sheets[s] == null ? 1 : sheets[s].type != type ? 3 : !in(i, 0, sheets[s].items.length - 1) ? 2 : 0;
        if (found != 0) {
            finding = found;
            return Integer.MIN_VALUE;
        }
        return sheets[s].items[i];
    }

    int copy(int s, int i, int t, int j, int n) {
        if (!in(s, 0, 3) || !in(t, 0, 3)) return BAD;
        if (sheets[s] == null || sheets[t] == null) return found(1);
        if (sheets[s].type != sheets[t].type) return found(4);
        if (i < 0 || j < 0 || n < 0 || (long) i + n > sheets[s].items.length || (long) j + n > sheets[t].items.length) {
            return found(2);
        }
        int[] were = sheets[s].items.clone();
        for (int k = 0; k < n; k++) sheets[t].items[j + k] = were[i + k];
        return 1;
    }

    int write(int counter, int s) {
        if (!isShop(counter) || !in(s, 0, 3)) return BAD;
        if (sheets[s] == null) return found(1);
        int n = 0;
        for (int event : shops.get(counter).log) if (n < sheets[s].items.length) sheets[s].items[n++] = event;
        return n;
    }

    int count(int what) {
        int bytes = 0, events = 0, shorts = 0, standing = 0;
        for (StringBuilder text : texts) bytes += text.length();
        for (Shop shop : shops) events += shop.log.size();
        for (Shop shop : shops) shorts += shop.ledger > shop.drawer ? 1 : 0;
        for (boolean ground : grounds) standing += ground ? 1 : 0;
        int[] counts = {bytes, shops.size(), events, shorts, payments.size(), judgments.size(), standing, interest,
            finding};
        return in(what, 0, 8) ? counts[what] : BAD;
    }

    long digest() {
        List<Integer> all = new ArrayList<>();
        for (int what = 0; what < 8; what++) all.add(count(what));
        for (int v = 0; v < 4; v++) {
            all.add(fault(v));
            for (int line = 0; line < 16; line++) all.add(acts(v, line));
        }
        for (int c = 0; c < shops.size(); c++) for (int what = 0; what < 9; what++) all.add(about(c, what));
        all.add(standing());
        all.add(owed(NONE, 399));
        long h = 17;
        for (int each : all) h = 31 * h + each;
        return h;
    }
}
