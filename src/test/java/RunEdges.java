/** Terms, part 3, and promises 11 to 15: cuts, runs, first, some, every. */
final class RunEdges {
    private static final int KEPT = Refused.KEPT;
    private static final String MOST = "v;pi1i2i3i4i5;bi1i2i3i4i5;di1i2i3i4i5;pi1i2i3i4i5";
    private static final String CHAIN = "v;pi1i1i1i1s0;pg0i1i1i1s1;pg1i1i1i1s2;pg2i1i1i1i1";
    private static final String[] NO_SUMS = {"-1", "100", "MIN", "MAX"};

    private RunEdges() {
    }

    static void all() {
        whateverNowIs();
        someOf();
        everyOf();
        closed();
        runsOf();
        cuts();
        runs();
        first();
        some();
        every();
    }

    private static void whateverNowIs() {
        Clause.terms("(Of the whole LAND, whatever NOW is.)");
        VillageCuts x = Checks.withLand("v;pi2;pi3i1");
        int[] run = {1, 1, 0};
        for (int v : run) {
            x.happen(v);
            Clause.due(x, "cuts()", 6);
            Clause.due(x, "runs()", 3);
            Clause.due(x, "first(0)", 0);
            Clause.due(x, "first(-1)", 3);
            Clause.due(x, "some(0)", 0);
            Clause.due(x, "some(5)", 2);
            Clause.due(x, "every(0)", 1);
            Clause.due(x, "every(5)", 0);
            Clause.due("closed", Checks.cut(x, 3, 0, 0), 0);
        }
        Clause.due(x, "many(2)", 3);
    }

    private static void someOf() {
        Clause.terms("SOME of v: the fewest THINGS that are in a CUT that CAN BE of SUM v");
        VillageCuts x = Checks.withLand("v;pi1i1i4;pi3i4");
        Clause.due("of nothing", x.some(0), 0);
        Clause.due("1 by one, not by two", x.some(1), 1);
        Clause.due("4 by 1 and 3, or 4 alone by two or three", x.some(4), 2);
        Clause.due("8 by all alone", x.some(8), 5);
        VillageCuts shut = Checks.withLand("v;pi9s0i0;pg0i4");
        Clause.due("4 alone can't be without the letter", shut.some(4), 5);
        Clause.terms("NONE: there is no such");
        Clause.due(x, "some(2)", -9);
        Clause.due(x, "some(9)", -9);
        Clause.due(x, "some(99)", -9);
        Clause.due("the cut that would be so can't be", Checks.withLand("v;pi9s0;pg0i4").some(4), -9);
        Clause.due("nothing is of sum 1", Checks.withLand("v;bi3;pi1").some(0), -9);
        VillageCuts low = Checks.withLand("v;bi3s0;pg0");
        Clause.due(low, "some(0)", -9);
        Clause.due(low, "some(1)", 0);
        Clause.due(low, "some(4)", 1);
        VillageCuts before = Checks.withLand("v;pi7i7i7;pi7i7i7");
        Clause.due(before, "some(14)", 2);
        Clause.due("another land behind", Checks.landBy(before, "v;ps0i1;pg0i1"), 2);
        Clause.due("nothing is left of the one before", before.some(14), -9);
        Clause.due(before, "some(7)", -9);
    }

    private static void everyOf() {
        Clause.terms("EVERY of v: whether in each RUN some CUT that it comes through (the first of nothing, the last "
            + "of all, too) is of SUM v.");
        VillageCuts x = Checks.withLand("v;pi7;bi5");
        int[] sums = {1, 13};
        for (int v = 0; v < 100; v++) {
            Clause.due("every " + v, x.every(v), v == sums[0] || v == sums[1] ? 1 : 0);
        }
        VillageCuts either = Checks.withLand("v;pi3;pi3");
        Clause.due("by either way", either.every(3), 1);
        VillageCuts line = Checks.withLand("v;pi7s0;pg0i1i0");
        int[] sure = {0, 7, 8};
        for (int v : sure) {
            Clause.due("one run alone", line.every(v), 1);
        }
        VillageCuts part = Checks.withLand("v;pi4i0;pi1");
        Clause.due("4 in two of three runs", part.every(4), 0);
        Clause.due("5 in two of three runs", part.every(5), 0);
        Clause.due("1 at last", part.every(1), 1);
    }

    private static void closed() {
        Clause.terms("CLOSED: of a CUT told the least one that CAN BE and has all of it.");
        VillageCuts x = Checks.withLand("v;ps0i1g3;pi1g0s1;pg1i1s3");
        closedIs(x, new int[] {0, 0, 0}, 0, 0, 0);
        closedIs(x, new int[] {0, 2, 0}, 1, 2, 0);
        closedIs(x, new int[] {2, 2, 0}, 2, 2, 0);
        closedIs(x, new int[] {0, 0, 1}, 1, 3, 1);
        closedIs(x, new int[] {3, 0, 0}, 3, 3, 3);
        closedIs(x, new int[] {3, 3, 3}, 3, 3, 3);
    }

    private static void closedIs(VillageCuts x, int[] cells, int... due) {
        int all = 0;
        for (int v = 0; v < due.length; v++) {
            all += due[v];
            Clause.due("closed of village " + v, Checks.cut(x, 10 + v, cells), due[v]);
        }
        Clause.due("closed in all", Checks.cut(x, 3, cells), all);
    }

    private static void runsOf() {
        Clause.terms("RUNS: how many there are.");
        Clause.due(Checks.withLand("v;pi1;pi1"), "runs()", 2);
        Clause.due(Checks.withLand("v;ps0;pg0"), "runs()", 1);
        Clause.due(Checks.withLand("v;pi1i1;pi1i1"), "runs()", 6);
        Clause.due(Checks.withLand("v;ps0g1;ps1g0"), "runs()", 4);
        Clause.terms("FIRST RUN: of all the first, as a row.");
        firstIs("v;pi1i1;pi1", 0, 0, 1);
        firstIs("v;pg0i1;ps0i1", 1, 0, 0, 1);
        firstIs("v;pi1g0i1;pi1s0i1;pi1", 0, 1, 1, 0, 0, 1, 2);
        firstIs("v;pg2;pg1s2;pg0s1;ps0", 3, 2, 2, 1, 1, 0);
    }

    private static void firstIs(String text, int... villages) {
        VillageCuts x = Checks.withLand(text);
        for (int k = 0; k < villages.length; k++) {
            Clause.due("first " + k + " of " + text, x.first(k), villages[k]);
        }
        Clause.due("first behind of " + text, x.first(villages.length), -9);
    }

    private static void cuts() {
        Clause.promise(11, "How many CUTS CAN BE.");
        Clause.due(Checks.withLand("v;pi1;pi1"), "cuts()", 4);
        Clause.due(Checks.withLand("v;ps0;pg0"), "cuts()", 3);
        Clause.due(Checks.withLand("v;ps0g1;ps1g0"), "cuts()", 7);
        Clause.due("most", Checks.withLand(MOST).cuts(), 1296);
        Clause.due("one run's", Checks.withLand(CHAIN).cuts(), 21);
        VillageCuts x = Checks.withLand(MOST);
        Clause.due(x, "cuts()", 1296);
        Clause.due("a smaller one behind", Checks.landBy(x, "v;ps0;pg0"), 2);
        Clause.due(x, "cuts()", 3);
        Clause.due(x, "runs()", 1);
        Clause.promise(11, "STATE: there is no LAND.");
        Refused.withoutLand("cuts()", -3, KEPT);
    }

    private static void runs() {
        Clause.promise(12, "RUNS.");
        Clause.due("most: more than an int", Checks.withLand(MOST).runs(), 11732745024L);
        Clause.due("one", Checks.withLand(CHAIN).runs(), 1);
        Clause.due("least", Checks.withLand("v;pg0;ps0").runs(), 1);
        Clause.promise(12, "LOST: STATE: there is no LAND.");
        Refused.withoutLand("runs()", Refused.LOST, KEPT);
    }

    private static void first() {
        Clause.promise(13, "FIRST RUN: how many THINGS (k -1)");
        Clause.due(Checks.withLand("v;pi1;pi1"), "first(-1)", 2);
        Clause.due(Checks.withLand(MOST), "first(-1)", 20);
        Clause.promise(13, "the VILLAGE of THING k of it (0 .. 19)");
        VillageCuts most = Checks.withLand(MOST);
        for (int k = 0; k < 20; k++) {
            Clause.due("first " + k, most.first(k), k / 5);
        }
        Clause.promise(13, "NONE: there are not so many.");
        VillageCuts few = Checks.withLand("v;pi1;pi1");
        Clause.due(few, "first(1)", 1);
        for (int k = 2; k < 20; k++) {
            Clause.due("first " + k, few.first(k), -9);
        }
        Clause.due("a longer land ahead leaves none", Checks.landBy(most, "v;pi1;pi1"), 2);
        Clause.due(most, "first(2)", -9);
        Clause.due(most, "first(19)", -9);
        Clause.promise(13, "OUTSIDE");
        String[] outside = {"-2", "20", "MIN", "MAX"};
        for (String k : outside) {
            Refused.onLand("first(" + k + ")", -2, KEPT);
            Refused.withoutLand("first(" + k + ")", -2, KEPT);
        }
        Clause.promise(13, "STATE: there is no LAND.");
        Refused.withoutLand("first(-1)", -3, KEPT);
        Refused.withoutLand("first(0)", -3, KEPT);
        Refused.withoutLand("first(19)", -3, KEPT);
    }

    private static void some() {
        Clause.promise(14, "SOME of v (0 .. 99)");
        VillageCuts high = Checks.withLand("v;di9;di9;di9;di9");
        Clause.due(high, "some(0)", 0);
        Clause.due(high, "some(18)", 1);
        Clause.due(high, "some(72)", 4);
        VillageCuts most = Checks.withLand(MOST);
        Clause.due(most, "some(1)", 0);
        Clause.due(most, "some(25)", 19);
        Clause.due(most, "some(26)", 20);
        Clause.due(most, "some(27)", -9);
        Clause.promise(14, "NONE");
        Clause.due(high, "some(73)", -9);
        Clause.due(high, "some(99)", -9);
        Clause.due(high, "some(1)", -9);
        Clause.promise(14, "OUTSIDE");
        for (String v : NO_SUMS) {
            Refused.onLand("some(" + v + ")", -2, KEPT);
            Refused.withoutLand("some(" + v + ")", -2, KEPT);
        }
        Clause.promise(14, "STATE: there is no LAND.");
        Refused.withoutLand("some(0)", -3, KEPT);
        Refused.withoutLand("some(99)", -3, KEPT);
    }

    private static void every() {
        Clause.promise(15, "EVERY of v (0 .. 99): 1, 0.");
        VillageCuts high = Checks.withLand("v;di9;di9;di9;di9");
        int[] sure = {0, 18, 36, 54, 72};
        for (int v : sure) {
            Clause.due("every " + v, high.every(v), 1);
        }
        Clause.due(high, "every(1)", 0);
        VillageCuts most = Checks.withLand(MOST);
        Clause.due(most, "every(0)", 0);
        Clause.due(most, "every(1)", 1);
        Clause.due(most, "every(2)", 0);
        Clause.due(most, "every(25)", 0);
        Clause.due(most, "every(26)", 1);
        Clause.due(most, "every(27)", 0);
        Clause.due(high, "every(99)", 0);
        Clause.due("not at first", Checks.withLand("v;bi1;pi1").every(0), 0);
        Clause.promise(15, "OUTSIDE");
        for (String v : NO_SUMS) {
            Refused.onLand("every(" + v + ")", -2, KEPT);
            Refused.withoutLand("every(" + v + ")", -2, KEPT);
        }
        Clause.promise(15, "STATE: there is no LAND.");
        Refused.withoutLand("every(0)", -3, KEPT);
        Refused.withoutLand("every(99)", -3, KEPT);
    }
}
