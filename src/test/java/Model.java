import java.util.ArrayList;
import java.util.Arrays;
import java.util.HashMap;
import java.util.List;
import java.util.Map;
import java.util.regex.Matcher;
import java.util.regex.Pattern;

/**
 * The document once more, in another way than the class: sheets are real arrays and their faults the machine's own,
 * texts are held against a pattern, what is ahead is closed over all pairs, cuts are tested thing by thing.
 */
final class Model {
    private static final int UNKNOWN = -1, OUTSIDE = -2, STATE = -3, FULL = -4, NONE = -9;
    private static final long LOST = Long.MIN_VALUE;
    private static final Pattern TEXT = Pattern.compile("v(;[pbd](i[0-9]|[sg][0-7]){1,5}){2,4}");

    private record Thing(int village, int number, char what, int digit) {
    }

    private record Reading(int[] cut, int sum) {
    }

    private final Object[] sheets = new Object[4];
    private int[] kinds = new int[0];
    private List<Thing> things = new ArrayList<>();
    private boolean[][] ahead = new boolean[0][0];
    private int[] now = new int[0];
    private final List<Reading> readings = new ArrayList<>();
    private List<int[]> allCuts;
    private int trace = 0;
    private int fault = 0;

    long call(String name, int... a) {
        switch (name) {
            case "land": return guarded(() -> land(a[0], a[1], a[2], a[3]), -10);
            case "ofVillage": return ofVillage(a[0], a[1]);
            case "thing": return thing(a[0], a[1], a[2]);
            case "ahead": return ahead(a[0], a[1], a[2], a[3]);
            case "happen": return happen(a[0]);
            case "anew": return anew();
            case "cut": return guarded(() -> cut(a[0], a[1], a[2], a[3]), -10);
            case "now": return now(a[0]);
            case "tale": return guarded(() -> tale(a[0], a[1], a[2], a[3], a[4]), -10);
            case "cuts": return noLand() ? STATE : cuts().size();
            case "runs": return noLand() ? LOST : runsFrom(new int[kinds.length], new HashMap<>());
            case "first": return first(a[0]);
            case "some": return some(a[0]);
            case "every": return every(a[0]);
            case "reading": return guarded(() -> reading(a[0], a[1], a[2], a[3]), -10);
            case "back": return back(a[0]);
            case "kinds": return kinds(a[0]);
            case "odds": return odds(a[0], a[1]);
            case "sheet": return guarded(() -> sheet(a[0], a[1], a[2]), -10);
            case "lose": return lose(a[0]);
            case "put": return guarded(() -> put(a[0], a[1], a[2]), -10);
            case "cell": return guarded(() -> cell(a[0], a[1], a[2]), LOST);
            case "copy": return guarded(() -> copy(a[0], a[1], a[2], a[3], a[4]), -10);
            case "tell": return isVillage(a[0]) ? tell(kinds[a[0]], value(a[0], now)) : UNKNOWN;
            case "ring": return ring(a[0]);
            case "as": return guarded(() -> as(a[0], a[1]), -10);
            case "trace": return trace;
            case "fault": return fault;
            case "many": return many(a[0]);
            default: throw new IllegalArgumentException(name);
        }
    }

    private interface Body {
        long run();
    }

    /** A call that names faults: the machine's own are caught and numbered. */
    private long guarded(Body body, long base) {
        fault = 0;
        try {
            return body.run();
        } catch (NullPointerException e) {
            fault = 1;
        } catch (ClassCastException | ArrayStoreException e) {
            fault = 2;
        } catch (IndexOutOfBoundsException e) {
            fault = 3;
        } catch (NegativeArraySizeException e) {
            fault = 4;
        }
        return base == LOST ? LOST : base - fault;
    }

    private boolean noLand() {
        return kinds.length == 0;
    }

    private boolean isVillage(int v) {
        return v >= 0 && v < kinds.length;
    }

    private static boolean isSheet(int k) {
        return k >= 0 && k <= 3;
    }

    private static boolean isLane(int lane) {
        return lane >= 0 && lane <= 2;
    }

    private static boolean isWhat(int what) {
        return what >= 0 && what <= 3 || what >= 10 && what <= 13;
    }

    private int[] cells(int k, int lane, int i, int n) {
        Object row = sheets[k];
        byte[] bytes = lane == 0 ? (byte[]) row : null;
        short[] shorts = lane == 1 ? (short[]) row : null;
        int[] ints = lane == 2 ? (int[]) row : null;
        int length = lane == 0 ? bytes.length : lane == 1 ? shorts.length : ints.length;
        int[] taken = new int[Math.min(n, 100)];
        if (i < 0 || i > length) {
            throw new IndexOutOfBoundsException();
        }
        for (int j = 0; j < n; j++) {
            taken[j] = lane == 0 ? bytes[i + j] : lane == 1 ? shorts[i + j] : ints[i + j];
        }
        return taken;
    }

    private long land(int k, int lane, int i, int n) {
        if (!isSheet(k)) {
            return UNKNOWN;
        }
        if (!isLane(lane)) {
            return OUTSIDE;
        }
        int[] codes = cells(k, lane, i, n);
        StringBuilder text = new StringBuilder();
        for (int code : codes) {
            text.append(code < 0 || code > 127 ? '?' : (char) code);
        }
        for (int p = 1; p <= n; p++) {
            Matcher matcher = TEXT.matcher(text.substring(0, p));
            if (!matcher.matches() && !matcher.hitEnd()) {
                return -100 - (p - 1);
            }
        }
        if (!TEXT.matcher(text).matches()) {
            return -100 - n;
        }
        return settle(text.toString());
    }

    private long settle(String text) {
        String[] parts = text.substring(2).split(";");
        List<Thing> found = new ArrayList<>();
        for (int v = 0; v < parts.length; v++) {
            for (int c = 1; c < parts[v].length(); c += 2) {
                found.add(new Thing(v, c / 2, parts[v].charAt(c), parts[v].charAt(c + 1) - '0'));
            }
        }
        for (int letter = 0; letter < 8; letter++) {
            if (isAmiss(found, letter)) {
                return -200 - letter;
            }
        }
        boolean[][] closed = closure(found);
        for (int a = 0; a < found.size(); a++) {
            if (closed[a][a]) {
                return -300;
            }
        }
        kinds = new int[parts.length];
        for (int v = 0; v < parts.length; v++) {
            kinds[v] = "pbd".indexOf(parts[v].charAt(0));
        }
        things = found;
        ahead = closed;
        now = new int[kinds.length];
        readings.clear();
        allCuts = null;
        return kinds.length;
    }

    private static boolean isAmiss(List<Thing> found, int letter) {
        List<Thing> sent = new ArrayList<>();
        List<Thing> got = new ArrayList<>();
        for (Thing t : found) {
            if (t.what == 's' && t.digit == letter) {
                sent.add(t);
            }
            if (t.what == 'g' && t.digit == letter) {
                got.add(t);
            }
        }
        boolean home = false;
        for (Thing s : sent) {
            for (Thing g : got) {
                home |= s.village == g.village;
            }
        }
        return sent.size() >= 2 || got.size() >= 2 || !got.isEmpty() && sent.isEmpty() || home;
    }

    private static boolean[][] closure(List<Thing> found) {
        int n = found.size();
        boolean[][] closed = new boolean[n][n];
        for (int a = 0; a < n; a++) {
            for (int b = 0; b < n; b++) {
                Thing one = found.get(a);
                Thing two = found.get(b);
                closed[a][b] = one.village == two.village && one.number < two.number
                    || one.what == 's' && two.what == 'g' && one.digit == two.digit;
            }
        }
        for (int m = 0; m < n; m++) {
            for (int a = 0; a < n; a++) {
                for (int b = 0; b < n; b++) {
                    closed[a][b] |= closed[a][m] && closed[m][b];
                }
            }
        }
        return closed;
    }

    private int indexOf(int v, int t) {
        for (int k = 0; k < things.size(); k++) {
            if (things.get(k).village == v && things.get(k).number == t) {
                return k;
            }
        }
        return -1;
    }

    private int lengthOf(int v) {
        return (int) things.stream().filter(t -> t.village == v).count();
    }

    private int value(int v, int[] cut) {
        int value = 0;
        for (Thing t : things) {
            if (t.village == v && t.number < cut[v] && t.what == 'i') {
                value = t.digit;
            }
        }
        return value;
    }

    private static int worth(int kind, int value) {
        return new int[] {value, value + 1, value * 2}[kind];
    }

    private int sum(int[] cut) {
        int sum = 0;
        for (int v = 0; v < kinds.length; v++) {
            sum += worth(kinds[v], value(v, cut));
        }
        return sum;
    }

    private int underWay(int[] cut) {
        int set = 0;
        for (Thing s : things) {
            boolean gone = s.what == 's' && s.number < cut[s.village];
            for (Thing g : things) {
                gone &= !(g.what == 'g' && g.digit == s.digit && g.number < cut[g.village]);
            }
            set |= gone ? 1 << s.digit : 0;
        }
        return set;
    }

    private boolean isIn(Thing t, int[] cut) {
        return t.number < cut[t.village];
    }

    private boolean canBe(int[] cut) {
        for (int a = 0; a < things.size(); a++) {
            for (int b = 0; b < things.size(); b++) {
                if (ahead[a][b] && isIn(things.get(b), cut) && !isIn(things.get(a), cut)) {
                    return false;
                }
            }
        }
        return true;
    }

    private boolean canNext(int[] cut, int v) {
        int next = indexOf(v, cut[v]);
        if (next < 0) {
            return false;
        }
        for (int a = 0; a < things.size(); a++) {
            if (ahead[a][next] && !isIn(things.get(a), cut)) {
                return false;
            }
        }
        return true;
    }

    private static int total(int[] cut) {
        return Arrays.stream(cut).sum();
    }

    private List<int[]> cuts() {
        if (allCuts == null) {
            allCuts = new ArrayList<>();
            gather(new int[kinds.length], 0);
        }
        return allCuts;
    }

    private void gather(int[] cut, int v) {
        if (v == kinds.length) {
            if (canBe(cut)) {
                allCuts.add(cut.clone());
            }
            return;
        }
        for (int c = 0; c <= lengthOf(v); c++) {
            cut[v] = c;
            gather(cut, v + 1);
        }
        cut[v] = 0;
    }

    private static int[] more(int[] cut, int v) {
        int[] next = cut.clone();
        next[v]++;
        return next;
    }

    private long runsFrom(int[] cut, Map<String, Long> known) {
        if (total(cut) == things.size()) {
            return 1;
        }
        String key = Arrays.toString(cut);
        Long before = known.get(key);
        if (before != null) {
            return before;
        }
        long runs = 0;
        for (int v = 0; v < kinds.length; v++) {
            if (canNext(cut, v)) {
                runs += runsFrom(more(cut, v), known);
            }
        }
        known.put(key, runs);
        return runs;
    }

    /** Whether each run from that cut on (itself, too) comes through one of that sum. */
    private boolean isSure(int[] cut, int sum, Map<String, Boolean> known) {
        if (sum(cut) == sum) {
            return true;
        }
        if (total(cut) == things.size()) {
            return false;
        }
        String key = Arrays.toString(cut);
        Boolean before = known.get(key);
        if (before != null) {
            return before;
        }
        boolean sure = true;
        for (int v = 0; v < kinds.length; v++) {
            sure &= !canNext(cut, v) || isSure(more(cut, v), sum, known);
        }
        known.put(key, sure);
        return sure;
    }

    private long ofVillage(int v, int what) {
        if (!isVillage(v)) {
            return UNKNOWN;
        }
        if (what < 0 || what > 5) {
            return OUTSIDE;
        }
        int[] answers = {kinds[v], lengthOf(v), now[v], value(v, now), worth(kinds[v], value(v, now)),
            canNext(now, v) ? 1 : 0};
        return answers[what];
    }

    private long thing(int v, int t, int what) {
        int k = indexOf(v, t);
        if (k < 0) {
            return UNKNOWN;
        }
        if (!isWhat(what) || what == 3) {
            return OUTSIDE;
        }
        if (what == 0) {
            return "isg".indexOf(things.get(k).what);
        }
        if (what == 1) {
            return things.get(k).digit;
        }
        if (what >= 10 && !isVillage(what - 10)) {
            return NONE;
        }
        int count = 0;
        for (int a = 0; a < things.size(); a++) {
            count += ahead[a][k] && (what == 2 || things.get(a).village == what - 10) ? 1 : 0;
        }
        return count;
    }

    private long ahead(int v, int t, int u, int other) {
        int a = indexOf(v, t);
        int b = indexOf(u, other);
        if (a < 0 || b < 0) {
            return UNKNOWN;
        }
        return a == b ? 0 : ahead[a][b] ? 1 : ahead[b][a] ? 2 : 3;
    }

    private long happen(int v) {
        if (!isVillage(v)) {
            return UNKNOWN;
        }
        return canNext(now, v) ? now[v]++ : STATE;
    }

    private long anew() {
        if (noLand()) {
            return STATE;
        }
        int had = total(now);
        now = new int[kinds.length];
        return had;
    }

    private boolean isCut(int[] cut) {
        for (int v = 0; v < kinds.length; v++) {
            if (cut[v] < 0 || cut[v] > lengthOf(v)) {
                return false;
            }
        }
        return true;
    }

    private long cut(int k, int lane, int i, int what) {
        if (noLand()) {
            return STATE;
        }
        if (!isSheet(k)) {
            return UNKNOWN;
        }
        if (!isLane(lane) || !isWhat(what)) {
            return OUTSIDE;
        }
        int[] cut = cells(k, lane, i, kinds.length);
        if (!isCut(cut)) {
            return OUTSIDE;
        }
        if (what < 3) {
            return what == 0 ? canBe(cut) ? 1 : 0 : what == 1 ? sum(cut) : underWay(cut);
        }
        int[] least = null;
        for (int[] one : cuts()) {
            boolean has = true;
            for (int v = 0; v < kinds.length; v++) {
                has &= one[v] >= cut[v];
            }
            if (has && (least == null || total(one) < total(least))) {
                least = one;
            }
        }
        return what == 3 ? total(least) : isVillage(what - 10) ? least[what - 10] : NONE;
    }

    private long now(int what) {
        if (what < 0 || what > 2) {
            return OUTSIDE;
        }
        if (noLand()) {
            return STATE;
        }
        int set = 0;
        for (int v = 0; v < kinds.length; v++) {
            set |= canNext(now, v) ? 1 << v : 0;
        }
        return what == 0 ? sum(now) : what == 1 ? underWay(now) : set;
    }

    private long tale(int k, int lane, int i, int n, int what) {
        if (!isSheet(k)) {
            return UNKNOWN;
        }
        if (!isLane(lane) || n < 0 || n > 20 || !isWhat(what)) {
            return OUTSIDE;
        }
        int[] acts = cells(k, lane, i, n);
        if (noLand()) {
            return STATE;
        }
        for (int v : acts) {
            if (!isVillage(v)) {
                return UNKNOWN;
            }
        }
        int[] cut = now.clone();
        int most = sum(cut);
        for (int act = 0; act < n; act++) {
            if (!canNext(cut, acts[act])) {
                return what == 1 ? act : -100 - act;
            }
            cut = more(cut, acts[act]);
            most = Math.max(most, sum(cut));
        }
        if (what >= 10) {
            return isVillage(what - 10) ? cut[what - 10] : NONE;
        }
        return new int[] {sum(cut), NONE, underWay(cut), most}[what];
    }

    private long first(int k) {
        if (k < -1 || k > 19) {
            return OUTSIDE;
        }
        if (noLand()) {
            return STATE;
        }
        List<Integer> run = new ArrayList<>();
        findFirst(new int[kinds.length], run);
        return k == -1 ? run.size() : k < run.size() ? run.get(k) : NONE;
    }

    private boolean findFirst(int[] cut, List<Integer> run) {
        if (run.size() == things.size()) {
            return true;
        }
        for (int v = 0; v < kinds.length; v++) {
            if (canNext(cut, v)) {
                run.add(v);
                if (findFirst(more(cut, v), run)) {
                    return true;
                }
                run.remove(run.size() - 1);
            }
        }
        return false;
    }

    private long some(int v) {
        if (v < 0 || v > 99) {
            return OUTSIDE;
        }
        if (noLand()) {
            return STATE;
        }
        return cuts().stream().filter(c -> sum(c) == v).mapToInt(Model::total).min().orElse(NONE);
    }

    private long every(int v) {
        if (v < 0 || v > 99) {
            return OUTSIDE;
        }
        return noLand() ? STATE : isSure(new int[kinds.length], v, new HashMap<>()) ? 1 : 0;
    }

    private long reading(int k, int lane, int i, int sum) {
        if (noLand()) {
            return STATE;
        }
        if (!isSheet(k)) {
            return UNKNOWN;
        }
        if (!isLane(lane) || sum < 0 || sum > 99) {
            return OUTSIDE;
        }
        int[] cut = cells(k, lane, i, kinds.length);
        if (!isCut(cut)) {
            return OUTSIDE;
        }
        if (readings.size() == 8) {
            return FULL;
        }
        readings.add(new Reading(cut, sum));
        return readings.size() - 1;
    }

    private long back(int n) {
        if (n < 0 || n > readings.size()) {
            return OUTSIDE;
        }
        readings.subList(readings.size() - n, readings.size()).clear();
        return readings.size();
    }

    private long kinds(int v) {
        if (!isVillage(v)) {
            return UNKNOWN;
        }
        int was = kinds[v];
        int set = 0;
        for (int kind = 0; kind < 3; kind++) {
            kinds[v] = kind;
            set |= readings.stream().allMatch(r -> sum(r.cut) == r.sum) ? 1 << kind : 0;
        }
        kinds[v] = was;
        return set;
    }

    private long odds(int v, int which) {
        if (v < 0 || v > 99 || which < 0 || which > 1 || noLand()) {
            return LOST;
        }
        int upper = (int) cuts().stream().filter(c -> sum(c) >= v).count();
        int lower = cuts().size();
        for (int d = lower; d > 1; d--) {
            if (upper % d == 0 && lower % d == 0) {
                upper /= d;
                lower /= d;
            }
        }
        return which == 0 ? upper : lower;
    }

    private long sheet(int k, int lane, int n) {
        if (!isSheet(k)) {
            return UNKNOWN;
        }
        if (!isLane(lane) || n > 60) {
            return OUTSIDE;
        }
        sheets[k] = lane == 0 ? new byte[n] : lane == 1 ? new short[n] : (Object) new int[n];
        return 1;
    }

    private long lose(int k) {
        if (!isSheet(k)) {
            return UNKNOWN;
        }
        int had = sheets[k] == null ? 0 : 1;
        sheets[k] = null;
        return had;
    }

    private long put(int k, int i, int v) {
        if (!isSheet(k)) {
            return UNKNOWN;
        }
        if (sheets[k] instanceof byte[] bytes) {
            bytes[i] = (byte) v;
        } else if (sheets[k] instanceof short[] shorts) {
            shorts[i] = (short) v;
        } else {
            ((int[]) sheets[k])[i] = v;
        }
        return 1;
    }

    private long cell(int k, int i, int lane) {
        if (!isSheet(k) || !isLane(lane)) {
            return LOST;
        }
        return lane == 0 ? ((byte[]) sheets[k])[i] : lane == 1 ? ((short[]) sheets[k])[i] : ((int[]) sheets[k])[i];
    }

    private long copy(int k, int i, int other, int j, int n) {
        if (!isSheet(k) || !isSheet(other)) {
            return UNKNOWN;
        }
        System.arraycopy(sheets[k], i, sheets[other], j, n);
        return n;
    }

    private int tell(int kind, int value) {
        trace = 31 * trace + kind + 1;
        switch (kind) {
            case 0:
                return value;
            case 1:
                return tell(0, value) + 100;
            default:
                return tell(1, value) + tell(0, value);
        }
    }

    private long ring(int v) {
        if (!isVillage(v)) {
            return UNKNOWN;
        }
        trace = 31 * trace + (kinds[v] == 2 ? 5 : 4);
        return kinds[v] == 2 ? 50 : now[v];
    }

    private long as(int v, int kind) {
        if (!isVillage(v)) {
            return UNKNOWN;
        }
        if (kind < 0 || kind > 2) {
            return OUTSIDE;
        }
        Object[][] chain = {{"p"}, {"p", "b"}, {"p", "b", "d"}};
        if (kind >= chain[kinds[v]].length) {
            throw new ClassCastException();
        }
        return 1;
    }

    private long many(int what) {
        if (what < 0 || what > 4) {
            return OUTSIDE;
        }
        int sent = (int) things.stream().filter(t -> t.what == 's').map(Thing::digit).distinct().count();
        return new int[] {kinds.length, things.size(), total(now), sent, readings.size()}[what];
    }
}
