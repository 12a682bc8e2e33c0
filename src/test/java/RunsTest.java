/** Promises 11 to 15 and 19: cuts, runs, first, some, every, odds. */
public final class RunsTest {
    private static final String MOST = "v;pi1i2i3i4i5;bi1i2i3i4i5;di1i2i3i4i5;pi1i2i3i4i5";
    private static final String CHAIN = "v;pi1i1i1i1s0;pg0i1i1i1s1;pg1i1i1i1s2;pg2i1i1i1i1";

    public static void main(String[] args) {
        withoutLand();
        cutsAndRuns();
        first();
        some();
        every();
        odds();
        whateverNowIs();
        Checks.end();
    }

    private static void withoutLand() {
        VillageCuts x = new VillageCuts();
        Checks.due("cuts", x.cuts(), -3);
        Checks.due("runs", x.runs(), Long.MIN_VALUE);
        Checks.due("first", x.first(-1), -3);
        Checks.due("first, outside ahead", x.first(20), -2);
        Checks.due("first, outside ahead", x.first(-2), -2);
        Checks.due("some", x.some(0), -3);
        Checks.due("some, outside ahead", x.some(100), -2);
        Checks.due("some, outside ahead", x.some(-1), -2);
        Checks.due("every", x.every(99), -3);
        Checks.due("every, outside ahead", x.every(100), -2);
        Checks.due("every, outside ahead", x.every(-1), -2);
        Checks.due("odds", x.odds(0, 0), Long.MIN_VALUE);
        Checks.due("odds", x.odds(0, 1), Long.MIN_VALUE);
    }

    private static void counts(String text, int cuts, long runs) {
        VillageCuts x = Checks.withLand(text);
        Checks.due("cuts of " + text, x.cuts(), cuts);
        Checks.due("runs of " + text, x.runs(), runs);
        Checks.due("cuts again", x.cuts(), cuts);
    }

    private static void cutsAndRuns() {
        counts("v;pi1;pi1", 4, 2);
        counts("v;ps0;pg0", 3, 1);
        counts("v;pi1i1;pi1", 6, 3);
        counts("v;ps0g1;ps1g0", 7, 4);
        counts("v;ps0g1i5;bg0s1;ds7i9", 18, 21);
        counts(MOST, 1296, 11732745024L);
        counts(CHAIN, 21, 1);
        counts("v;pi1;pi1;pi1;pi1", 16, 24);
    }

    private static void first(String text, int... villages) {
        VillageCuts x = Checks.withLand(text);
        Checks.due("first -1 of " + text, x.first(-1), villages.length);
        for (int k = 0; k < 20; k++) {
            Checks.due("first " + k + " of " + text, x.first(k), k < villages.length ? villages[k] : -9);
        }
        Checks.due("first 20", x.first(20), -2);
        Checks.due("first -2", x.first(-2), -2);
    }

    private static void first() {
        first("v;pi1;pi1", 0, 1);
        first("v;pg0;ps0", 1, 0);
        first("v;pi1g0i1;pi1s0i1;pi1", 0, 1, 1, 0, 0, 1, 2);
        first("v;pg2;pg1s2;pg0s1;ps0", 3, 2, 2, 1, 1, 0);
        first(MOST, 0, 0, 0, 0, 0, 1, 1, 1, 1, 1, 2, 2, 2, 2, 2, 3, 3, 3, 3, 3);
        Checks.due("twenty things", Checks.withLand(MOST).first(-1), 20);
    }

    private static void some() {
        VillageCuts x = Checks.withLand("v;pi1i5;di2g0;ps0i9");
        int[][] due = {{0, 0}, {1, 1}, {4, 1}, {5, 2}, {9, 2}, {10, 3}, {13, 3}, {14, 4}, {18, 5}, {2, -9}, {3, -9},
            {19, -9}, {99, -9}};
        for (int[] one : due) {
            Checks.due("some " + one[0], x.some(one[0]), one[1]);
        }
        VillageCuts shut = Checks.withLand("v;pi9s0i0;pg0i4");
        Checks.due("4 and 9", shut.some(13), 4);
        Checks.due("4 alone", shut.some(4), 5);
        Checks.due("9", shut.some(9), 1);
        Checks.due("0", shut.some(0), 0);
        Checks.due("-1", shut.some(-1), -2);
        Checks.due("100", shut.some(100), -2);
        Checks.due("0 never", Checks.withLand("v;bi3s0;pg0").some(0), -9);
        VillageCuts high = Checks.withLand("v;di9;di9;di9;di9");
        Checks.due("72", high.some(72), 4);
        Checks.due("54", high.some(54), 3);
    }

    private static void every() {
        VillageCuts x = Checks.withLand("v;pi1i5;di2g0;ps0i9");
        int[] sure = {0, 18};
        for (int v = 0; v < 100; v++) {
            Checks.due("every " + v, x.every(v), v == sure[0] || v == sure[1] ? 1 : 0);
        }
        VillageCuts line = Checks.withLand("v;pi1s0i3;pg0i4i2");
        Checks.due("1: each run begins so", line.every(1), 1);
        Checks.due("5: last", line.every(5), 1);
        Checks.due("7", line.every(7), 0);
        Checks.due("3", line.every(3), 0);
        VillageCuts one = Checks.withLand("v;pi7s0;pg0i1i0");
        Checks.due("8", one.every(8), 1);
        Checks.due("7 at last", one.every(7), 1);
        VillageCuts either = Checks.withLand("v;pi3;pi3");
        Checks.due("3 by either", either.every(3), 1);
        Checks.due("6", either.every(6), 1);
        Checks.due("-1", either.every(-1), -2);
        Checks.due("100", either.every(100), -2);
        VillageCuts broad = Checks.withLand("v;bi3;bi3");
        Checks.due("2 at first", broad.every(2), 1);
        Checks.due("0 never", broad.every(0), 0);
    }

    private static void odds(VillageCuts x, int v, long upper, long lower) {
        Checks.due("odds upper of " + v, x.odds(v, 0), upper);
        Checks.due("odds lower of " + v, x.odds(v, 1), lower);
    }

    private static void odds() {
        VillageCuts x = Checks.withLand("v;pi2;pi3i1");
        odds(x, 0, 1, 1);
        odds(x, 1, 5, 6);
        odds(x, 2, 2, 3);
        odds(x, 3, 1, 2);
        odds(x, 4, 1, 6);
        odds(x, 5, 1, 6);
        odds(x, 6, 0, 1);
        odds(x, 99, 0, 1);
        Checks.due("100", x.odds(100, 0), Long.MIN_VALUE);
        Checks.due("-1", x.odds(-1, 0), Long.MIN_VALUE);
        Checks.due("which -1", x.odds(0, -1), Long.MIN_VALUE);
        Checks.due("which 2", x.odds(0, 2), Long.MIN_VALUE);
        VillageCuts shut = Checks.withLand("v;pi9s0i0;pg0i4");
        odds(shut, 9, 1, 2);
        odds(shut, 10, 1, 8);
        odds(shut, 4, 5, 8);
    }

    private static void whateverNowIs() {
        VillageCuts x = Checks.withLand("v;pi2;pi3i1");
        x.happen(1);
        x.happen(1);
        Checks.due("cuts", x.cuts(), 6);
        Checks.due("runs", x.runs(), 3);
        Checks.due("first", x.first(0), 0);
        Checks.due("some", x.some(0), 0);
        Checks.due("every", x.every(0), 1);
        odds(x, 5, 1, 6);
        Checks.due("nothing changed", x.many(2), 2);
    }
}
