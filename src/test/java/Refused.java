import java.util.ArrayList;
import java.util.List;

/**
 * Calls that are refused or come to a fault, each on an object of its own: what they answer, what fault() tells
 * then, and that all else is as in a twin that never had the call.
 */
final class Refused {
    /** The fault ahead of the call: one that names no FAULTS leaves it. */
    static final int KEPT = 4;
    static final long LOST = Long.MIN_VALUE;
    static final String TEXT = "v;pi3s0g1;bg0i4s1;di2g2;ps2i9";

    private Refused() {
    }

    /** Sheet 0: 29 bytes, sheet 1: 8 shorts, sheet 2: 5 ints, sheet 3: nothing; no land. */
    static VillageCuts withoutLand() {
        VillageCuts x = new VillageCuts();
        Checks.write(x, 0, 0, TEXT);
        Checks.row(x, 1, 1, 1, 1, 0, 1, 0, 0, 1, 3);
        Checks.row(x, 2, 2, 0, 1, 2, 3, 70000);
        Checks.due("a fault", x.sheet(0, 0, -1), -14);
        return x;
    }

    /** The same with a land of four villages, of which 2, 0, 0, 1 things have happened, and one reading. */
    static VillageCuts withLand() {
        VillageCuts x = withoutLand();
        Checks.due("land", x.land(0, 0, 0, TEXT.length()), 4);
        x.happen(0);
        x.happen(0);
        x.happen(3);
        Checks.due("reading", x.reading(1, 1, 0, 4), 0);
        Checks.due("tell", x.tell(0), 3);
        Checks.due("a fault", x.sheet(0, 0, -1), -14);
        return x;
    }

    static VillageCuts withFullReadings() {
        VillageCuts x = withLand();
        for (int number = 1; number < 8; number++) {
            Checks.due("reading", x.reading(1, 1, 0, number), number);
        }
        Checks.due("a fault", x.sheet(0, 0, -1), -14);
        return x;
    }

    static void onLand(String call, long answer, int fault) {
        hold(withLand(), withLand(), call, answer, fault);
    }

    static void withoutLand(String call, long answer, int fault) {
        hold(withoutLand(), withoutLand(), call, answer, fault);
    }

    static void onFullReadings(String call, long answer, int fault) {
        hold(withFullReadings(), withFullReadings(), call, answer, fault);
    }

    private static void hold(VillageCuts x, VillageCuts twin, String call, long answer, int fault) {
        Clause.due(x, call, answer);
        Clause.due("fault() behind " + call, x.fault(), fault);
        List<Long> is = allOf(x);
        List<Long> was = allOf(twin);
        for (int k = 0; k < was.size(); k++) {
            Clause.due("answer " + k + " of all, behind " + call, is.get(k), was.get(k));
        }
    }

    /** Whatever can be asked of such an object. */
    private static List<Long> allOf(VillageCuts x) {
        List<Long> all = new ArrayList<>();
        ask(x, all, "many", 0, 4);
        ask(x, all, "now", 0, 2);
        ask(x, all, "first", -1, 10);
        ask(x, all, "kinds", 0, 3);
        all.add((long) x.trace());
        all.add((long) x.cuts());
        all.add(x.runs());
        for (int v = 0; v < 4; v++) {
            for (int what = 0; what < 6; what++) {
                all.add((long) x.ofVillage(v, what));
            }
        }
        int[] lengths = {29, 8, 5, 0};
        for (int k = 0; k < 4; k++) {
            for (int i = 0; i <= lengths[k]; i++) {
                all.add(x.cell(k, i, k % 3));
            }
            all.add((long) x.fault());
        }
        all.add((long) x.back(x.many(4) > 0 ? 1 : 0));
        ask(x, all, "kinds", 0, 3);
        return all;
    }

    private static void ask(VillageCuts x, List<Long> all, String name, int from, int to) {
        for (int a = from; a <= to; a++) {
            all.add(Calls.call(x, name, a));
        }
    }
}
