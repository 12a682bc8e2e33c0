/** Terms, part 4, and promises 16 to 19: reading, back, kinds, odds. */
final class ReadingEdges {
    private static final int KEPT = Refused.KEPT;
    private static final long LOST = Refused.LOST;
    private static final String TWO = "v;pi3i0s0;bg0i2";

    private ReadingEdges() {
    }

    static void all() {
        readings();
        kindsOf();
        oddsOf();
        reading();
        readingRefusals();
        back();
        kinds();
        odds();
    }

    private static void kindsAre(VillageCuts x, int... due) {
        for (int v = 0; v < due.length; v++) {
            Clause.due("kinds " + v, x.kinds(v), due[v]);
        }
    }

    private static void readings() {
        Clause.terms("READINGS, 8 at most, numbered by how many there are");
        VillageCuts x = Checks.withLand(TWO);
        for (int number = 0; number < 8; number++) {
            Clause.due("number", Checks.reading(x, 1, 0, 0), number);
        }
        Clause.due("a ninth", Checks.reading(x, 1, 0, 0), -4);
        Clause.due(x, "back(3)", 5);
        Clause.due("the sixth again", Checks.reading(x, 1, 0, 0), 5);
        Clause.terms("at a CUT (it need not be one that CAN BE) the SUM is so much.");
        Clause.due("cannot be", Checks.cut(x, 0, 0, 2), 0);
        VillageCuts y = Checks.withLand(TWO);
        Clause.due("a reading all the same", Checks.reading(y, 3, 0, 2), 0);
        kindsAre(y, 5, 2);
    }

    private static void kindsOf() {
        Clause.terms("All that follows: in place of what it is alone, by which all READINGS are so: KINDS of a "
            + "VILLAGE: 0 .. 2, as a set.");
        VillageCuts x = Checks.withLand(TWO);
        kindsAre(x, 7, 7);
        Checks.reading(x, 4, 1, 0);
        kindsAre(x, 1, 2);
        Checks.reading(x, 3, 3, 2);
        kindsAre(x, 1, 2);
        Checks.reading(x, 4, 3, 2);
        kindsAre(x, 0, 0);
        Clause.due(x, "ofVillage(0, 0)", 0);
        Clause.due(x, "ofVillage(1, 0)", 1);
        // both would have to be others at once: neither alone makes it so
        VillageCuts both = Checks.withLand("v;pi3;pi4");
        Checks.reading(both, 9, 1, 1);
        kindsAre(both, 0, 0);
        // values 0 and 1: plain as double, broad as double
        VillageCuts alike = Checks.withLand("v;pi0i1;bi1");
        Checks.reading(alike, 1, 0, 0);
        kindsAre(alike, 5, 2);
        alike.back(1);
        Checks.reading(alike, 3, 2, 1);
        kindsAre(alike, 1, 6);
    }

    private static void oddsOf() {
        Clause.terms("ODDS of v: of all CUTS that CAN BE, all alike, the share of which the SUM is v or more.");
        // 8 cuts can be, their sums are 0, 9, 9, 9, 13, 0, 0, 4
        VillageCuts x = Checks.withLand("v;pi9s0i0;pg0i4");
        oddsAre(x, 0, 1, 1);
        oddsAre(x, 1, 5, 8);
        oddsAre(x, 4, 5, 8);
        oddsAre(x, 5, 1, 2);
        oddsAre(x, 9, 1, 2);
        oddsAre(x, 10, 1, 8);
        oddsAre(x, 13, 1, 8);
        oddsAre(x, 14, 0, 1);
    }

    private static void oddsAre(VillageCuts x, int v, long upper, long lower) {
        Clause.due("upper of " + v, x.odds(v, 0), upper);
        Clause.due("lower of " + v, x.odds(v, 1), lower);
    }

    private static void reading() {
        Clause.promise(16, "A READING of a CUT, told by as many cells of a SHEET from i on as there are VILLAGES, and "
            + "a SUM (0 .. 99): its number.");
        for (int lane = 0; lane < 3; lane++) {
            VillageCuts x = Checks.withLand(TWO);
            Checks.row(x, lane, lane, 9, 1, 0, 9);
            Clause.due("lane " + lane, x.reading(lane, lane, 1, 4), 0);
            kindsAre(x, 1, 2);
            Clause.due("lane " + lane, x.reading(lane, lane, 1, 0), 1);
            Clause.due("lane " + lane, x.reading(lane, lane, 1, 99), 2);
            kindsAre(x, 0, 0);
            Clause.due(x, "back(2)", 1);
            // what is put into the sheet later does not change the reading
            x.put(lane, 1, 2);
            kindsAre(x, 1, 2);
        }
        VillageCuts four = Checks.withLand("v;pi1;pi1;pi1;di9");
        Clause.due("of four", Checks.reading(four, 18, 0, 0, 0, 1), 0);
        kindsAre(four, 5, 5, 5, 4);
    }

    private static void readingRefusals() {
        Clause.promise(16, "STATE: there is no LAND");
        Refused.withoutLand("reading(1, 1, 0, 0)", -3, 0);
        Refused.withoutLand("reading(4, 3, -1, 100)", -3, 0);
        Clause.promise(16, "UNKNOWN: SHEET");
        String[] noSheets = {"-1", "4", "MIN", "MAX"};
        for (String k : noSheets) {
            Refused.onLand("reading(" + k + ", 3, -1, 100)", -1, 0);
            Refused.onFullReadings("reading(" + k + ", 1, 0, 4)", -1, 0);
        }
        Clause.promise(16, "OUTSIDE: lane, sum");
        String[] noLanes = {"-1", "3", "MIN", "MAX"};
        for (String lane : noLanes) {
            Refused.onLand("reading(1, " + lane + ", 0, 0)", -2, 0);
            Refused.onLand("reading(3, " + lane + ", -1, 0)", -2, 0);
        }
        String[] noSums = {"-1", "100", "MIN", "MAX"};
        for (String sum : noSums) {
            Refused.onLand("reading(1, 1, 0, " + sum + ")", -2, 0);
            Refused.onLand("reading(3, 1, -1, " + sum + ")", -2, 0);
        }
        Clause.promise(16, "FAULTS CAST, NULL, INDEX");
        Refused.onLand("reading(1, 0, -1, 0)", -12, 2);
        Refused.onFullReadings("reading(1, 2, 0, 0)", -12, 2);
        Refused.onLand("reading(3, 0, -1, 0)", -11, 1);
        Refused.onFullReadings("reading(3, 1, 0, 0)", -11, 1);
        String[] places = {"-1", "5", "8", "9", "MIN", "MAX"};
        for (String i : places) {
            Refused.onLand("reading(1, 1, " + i + ", 0)", -13, 3);
            Refused.onFullReadings("reading(1, 1, " + i + ", 0)", -13, 3);
        }
        Clause.promise(16, "OUTSIDE: a cell is not 0 .. as many THINGS as there are");
        Refused.onLand("reading(1, 1, 4, 0)", -2, 0);
        Refused.onFullReadings("reading(1, 1, 4, 0)", -2, 0);
        VillageCuts x = Checks.withLand("v;pi1;pi1i2i3i4i5");
        int[][] outside = {{-1, 0}, {2, 0}, {0, -1}, {0, 6}, {Integer.MIN_VALUE, 0}, {0, Integer.MAX_VALUE}};
        for (int[] cells : outside) {
            Clause.due("a cell", Checks.reading(x, 0, cells), -2);
            Clause.due(x, "many(4)", 0);
        }
        Clause.due("all", Checks.reading(x, 0, 1, 5), 0);
        Clause.due("nothing", Checks.reading(x, 0, 0, 0), 1);
        Clause.promise(16, "FULL");
        Refused.onFullReadings("reading(1, 1, 0, 0)", -4, 0);
        Refused.onFullReadings("reading(1, 1, 0, 99)", -4, 0);
    }

    private static void back() {
        Clause.promise(17, "The last n READINGS (0 .. as many as there are) are taken back: how many are left.");
        VillageCuts x = Checks.withLand(TWO);
        Checks.reading(x, 4, 1, 0);
        Checks.reading(x, 5, 1, 0);
        Checks.reading(x, 6, 1, 0);
        kindsAre(x, 0, 0);
        Clause.due(x, "back(0)", 3);
        Clause.due("the last two, not the first", x.back(2), 1);
        kindsAre(x, 1, 2);
        Clause.due(x, "back(1)", 0);
        kindsAre(x, 7, 7);
        Clause.due(x, "back(0)", 0);
        VillageCuts full = Refused.withFullReadings();
        Clause.due(full, "back(8)", 0);
        Clause.due(full, "many(4)", 0);
        Clause.due(new VillageCuts(), "back(0)", 0);
        Clause.promise(17, "OUTSIDE.");
        String[] outside = {"-1", "2", "MIN", "MAX"};
        for (String n : outside) {
            Refused.onLand("back(" + n + ")", -2, KEPT);
        }
        Refused.onFullReadings("back(9)", -2, KEPT);
        Refused.onFullReadings("back(-1)", -2, KEPT);
        Refused.withoutLand("back(1)", -2, KEPT);
    }

    private static void kinds() {
        Clause.promise(18, "KINDS, as a set.");
        kindsAre(Checks.withLand("v;pi1;bi1;di1;pi1"), 7, 7, 7, 7);
        VillageCuts x = Checks.withLand("v;pi5;bi5;di5");
        int[] worth = {5, 6, 10};
        int[] ofOthers = {1, 0, 1};
        for (int v = 0; v < 3; v++) {
            int[] cells = new int[3];
            cells[v] = 1;
            for (int kind = 0; kind < 3; kind++) {
                Checks.reading(x, ofOthers[v] + worth[kind], cells);
                Clause.due("kinds " + v + " as " + kind, x.kinds(v), 1 << kind);
                x.back(1);
            }
            Checks.reading(x, 99, cells);
            Clause.due("none is so", x.kinds(v), 0);
            x.back(1);
        }
        Clause.promise(18, "UNKNOWN.");
        String[] unknown = {"-1", "4", "MIN", "MAX"};
        for (String v : unknown) {
            Refused.onLand("kinds(" + v + ")", -1, KEPT);
        }
        Refused.withoutLand("kinds(0)", -1, KEPT);
        Clause.due(x, "kinds(3)", -1);
    }

    private static void odds() {
        Clause.promise(19, "ODDS of v (0 .. 99; which 0 the upper, 1 the lower number).");
        VillageCuts high = Checks.withLand("v;di9;di9;di9;di9");
        oddsAre(high, 0, 1, 1);
        oddsAre(high, 1, 15, 16);
        oddsAre(high, 18, 15, 16);
        oddsAre(high, 19, 11, 16);
        oddsAre(high, 37, 5, 16);
        oddsAre(high, 72, 1, 16);
        oddsAre(high, 73, 0, 1);
        oddsAre(high, 99, 0, 1);
        VillageCuts most = Checks.withLand("v;pi1i2i3i4i5;bi1i2i3i4i5;di1i2i3i4i5;pi1i2i3i4i5");
        oddsAre(most, 1, 1, 1);
        oddsAre(most, 2, 1295, 1296);
        oddsAre(most, 26, 1, 1296);
        oddsAre(most, 27, 0, 1);
        Clause.promise(19, "LOST: OUTSIDE");
        String[] outside = {"-1, 0", "100, 0", "MIN, 0", "MAX, 1", "0, -1", "0, 2", "0, MIN", "0, MAX"};
        for (String a : outside) {
            Refused.onLand("odds(" + a + ")", LOST, KEPT);
            Refused.withoutLand("odds(" + a + ")", LOST, KEPT);
        }
        Clause.promise(19, "STATE: there is no LAND.");
        Refused.withoutLand("odds(0, 0)", LOST, KEPT);
        Refused.withoutLand("odds(99, 1)", LOST, KEPT);
    }
}
