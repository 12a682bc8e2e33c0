/** Terms, ahead of its parts: refusals, faults and their order, how sets and shares are told. */
final class TermsEdges {
    private static final int KEPT = Refused.KEPT;
    private static final long LOST = Refused.LOST;
    /** One refused call of each that names FAULTS. */
    private static final String[] NAMING = {"land(4, 0, 0, 29)", "cut(4, 1, 0, 0)", "tale(4, 1, 0, 0, 0)",
        "reading(4, 1, 0, 0)", "sheet(4, 0, 0)", "put(4, 0, 0)", "copy(4, 0, 0, 0, 0)", "as(4, 0)"};
    /** One refused call of each that names none, on a land. */
    private static final String[] NOT_NAMING = {"ofVillage(4, 0)", "thing(4, 0, 0)", "ahead(4, 0, 0, 0)", "happen(4)",
        "kinds(4)", "lose(4)", "tell(4)", "ring(4)"};

    private TermsEdges() {
    }

    static void all() {
        object();
        refusals();
        changeNothing();
        faults();
        indexOfNone();
        order();
        answers();
        setsAndShares();
    }

    private static void object() {
        Clause.whatItIs("An object is used for at most 512 calls after it has been made; what later calls answer is "
            + "free.");
        VillageCuts x = new VillageCuts();
        for (int call = 1; call < 512; call++) {
            Checks.due("call " + call, x.sheet(0, 0, call % 61), 1);
        }
        Clause.due(x, "lose(0)", 1);
        VillageCuts land = new VillageCuts();
        Checks.write(land, 0, 0, "v;pi1i2i3i4i5;bi1i2i3i4i5;di1i2i3i4i5;pi1i2i3i4i5");
        for (int call = 51; call < 512; call += 2) {
            Clause.due("call " + call, land.land(0, 0, 0, 49), 4);
            Clause.due("call " + (call + 1), land.cuts(), 1296);
        }
        // no answer is due any more, but none may throw
        land.runs();
        land.happen(0);
    }

    private static void refusals() {
        Clause.terms("REFUSALS, in the order in which a call's line tells them");
        Refused.onLand("land(4, 3, -1, -1)", -1, 0);
        Refused.onLand("ofVillage(4, 6)", -1, KEPT);
        Refused.onLand("thing(0, 3, 3)", -1, KEPT);
        Refused.withoutLand("cut(4, 3, -1, 4)", -3, 0);
        Refused.onLand("cut(4, 3, -1, 4)", -1, 0);
        Refused.withoutLand("now(3)", -2, KEPT);
        Refused.withoutLand("tale(4, 3, -1, 21, 4)", -1, 0);
        Refused.withoutLand("tale(0, 3, -1, 21, 4)", -2, 0);
        Refused.withoutLand("first(20)", -2, KEPT);
        Refused.withoutLand("some(100)", -2, KEPT);
        Refused.withoutLand("every(100)", -2, KEPT);
        Refused.withoutLand("reading(4, 3, -1, 100)", -3, 0);
        Refused.onLand("reading(4, 3, -1, 100)", -1, 0);
        Refused.onLand("sheet(4, 3, 61)", -1, 0);
        Refused.onLand("as(4, 3)", -1, 0);
        Clause.terms("UNKNOWN (there is no such VILLAGE, THING, SHEET, place of a row)");
        Refused.onLand("ofVillage(4, 0)", -1, KEPT);
        Refused.onLand("thing(2, 2, 0)", -1, KEPT);
        Refused.onLand("put(4, 0, 0)", -1, 0);
        Clause.terms("OUTSIDE (another number is not as told)");
        Refused.onLand("many(5)", -2, KEPT);
        Refused.onLand("land(0, 3, 0, 29)", -2, 0);
        Clause.terms("STATE (as told), FULL");
        Refused.onLand("happen(0)", -3, KEPT);
        Refused.withoutLand("anew()", -3, KEPT);
        Refused.onFullReadings("reading(1, 1, 0, 4)", -4, 0);
        Clause.due("UNKNOWN", VillageCuts.UNKNOWN, -1);
        Clause.due("OUTSIDE", VillageCuts.OUTSIDE, -2);
        Clause.due("STATE", VillageCuts.STATE, -3);
        Clause.due("FULL", VillageCuts.FULL, -4);
    }

    private static void changeNothing() {
        Clause.terms("they change nothing (but fault(), of a call that names FAULTS)");
        for (String call : NAMING) {
            Refused.onLand(call, -1, 0);
        }
        Refused.onLand("cell(4, 0, 0)", LOST, 0);
        Refused.onFullReadings("reading(1, 1, 0, 0)", -4, 0);
        for (String call : NOT_NAMING) {
            Refused.onLand(call, -1, KEPT);
        }
        String[] outside = {"now(3)", "first(20)", "some(100)", "every(100)", "back(2)", "many(5)"};
        for (String call : outside) {
            Refused.onLand(call, -2, KEPT);
        }
        Refused.onLand("odds(100, 0)", LOST, KEPT);
        Refused.withoutLand("anew()", -3, KEPT);
        Refused.withoutLand("cuts()", -3, KEPT);
        Refused.withoutLand("runs()", LOST, KEPT);
    }

    private static void faults() {
        Clause.terms("FAULTS are the machine's: 1 NULL (there is nothing)");
        Refused.onLand("land(3, 0, 0, 0)", -11, 1);
        Refused.onLand("cut(3, 0, 0, 0)", -11, 1);
        Refused.onLand("tale(3, 0, 0, 0, 0)", -11, 1);
        Refused.onLand("reading(3, 0, 0, 0)", -11, 1);
        Refused.onLand("put(3, 0, 0)", -11, 1);
        Refused.onLand("cell(3, 0, 0)", LOST, 1);
        Refused.onLand("copy(3, 0, 0, 0, 0)", -11, 1);
        Refused.onLand("copy(0, 0, 3, 0, 0)", -11, 1);
        Clause.terms("2 CAST (it is of another lane, kind)");
        Refused.onLand("land(0, 1, 0, 29)", -12, 2);
        Refused.onLand("cut(1, 2, 0, 0)", -12, 2);
        Refused.onLand("tale(1, 0, 0, 0, 0)", -12, 2);
        Refused.onLand("reading(2, 1, 0, 0)", -12, 2);
        Refused.onLand("cell(2, 0, 0)", LOST, 2);
        Refused.onLand("copy(1, 0, 2, 0, 1)", -12, 2);
        Refused.onLand("as(0, 1)", -12, 2);
        Clause.terms("4 SIZE (a length below 0)");
        Refused.onLand("land(0, 0, 0, -1)", -14, 4);
        Refused.onLand("land(0, 0, 0, MIN)", -14, 4);
        Refused.onLand("sheet(1, 1, -1)", -14, 4);
        Refused.onLand("sheet(1, 1, MIN)", -14, 4);
    }

    private static void indexOfNone() {
        Clause.terms("3 INDEX (of cells from i on also where i is not 0 .. how many there are, if none of them is "
            + "taken, too)");
        Refused.onLand("land(0, 0, -1, 0)", -13, 3);
        Refused.onLand("land(0, 0, 30, 0)", -13, 3);
        Refused.onLand("land(0, 0, 29, 0)", -100, 0);
        Refused.onLand("tale(1, 1, -1, 0, 0)", -13, 3);
        Refused.onLand("tale(1, 1, 9, 0, 0)", -13, 3);
        Refused.onLand("tale(1, 1, 8, 0, 0)", 4, 0);
        Refused.onLand("copy(1, -1, 1, 0, 0)", -13, 3);
        Refused.onLand("copy(1, 9, 1, 0, 0)", -13, 3);
        Refused.onLand("copy(1, 0, 1, -1, 0)", -13, 3);
        Refused.onLand("copy(1, 0, 1, 9, 0)", -13, 3);
        Refused.onLand("copy(1, 8, 1, 8, 0)", 0, 0);
        VillageCuts empty = Checks.withLand("v;pi1;pi1");
        Checks.row(empty, 0, 2);
        Clause.due(empty, "land(0, 2, 0, 0)", -100);
        Clause.due(empty, "land(0, 2, 1, 0)", -13);
        Clause.due(empty, "tale(0, 2, 0, 0, 1)", -9);
        Clause.due(empty, "tale(0, 2, 1, 0, 1)", -13);
        Clause.due(empty, "copy(0, 0, 0, 0, 0)", 0);
        Clause.due(empty, "copy(0, 0, 0, 1, 0)", -13);
    }

    private static void order() {
        Clause.terms("Of a call the first that is come to, in the order told");
        Refused.onLand("land(0, 1, -1, -1)", -12, 2);
        Refused.onLand("land(3, 1, -1, -1)", -11, 1);
        Refused.onLand("land(0, 0, -1, -1)", -14, 4);
        Refused.onLand("cut(1, 0, -1, 0)", -12, 2);
        Refused.onLand("cut(3, 0, -1, 0)", -11, 1);
        Refused.onLand("tale(1, 0, -1, 0, 0)", -12, 2);
        Refused.onLand("tale(3, 0, -1, 0, 0)", -11, 1);
        Refused.onLand("reading(1, 0, -1, 0)", -12, 2);
        Refused.onLand("reading(3, 0, -1, 0)", -11, 1);
        Refused.onLand("put(3, -1, 0)", -11, 1);
        Refused.onLand("cell(1, -1, 0)", LOST, 2);
        Refused.onLand("cell(3, -1, 0)", LOST, 1);
        Refused.onLand("copy(3, -1, 2, -1, -1)", -11, 1);
        Refused.onLand("copy(2, -1, 3, -1, -1)", -11, 1);
        Refused.onLand("copy(1, -1, 2, -1, -1)", -12, 2);
    }

    private static void answers() {
        Clause.terms("it answers -10 less it (LOST, where a long is answered, as for refusals) and changes nothing");
        Refused.onLand("put(3, 0, 7)", -11, 1);
        Refused.onLand("copy(0, 0, 1, 0, 8)", -12, 2);
        Refused.onLand("copy(1, 0, 1, 1, 8)", -13, 3);
        Refused.onLand("sheet(1, 2, -1)", -14, 4);
        Refused.onLand("reading(1, 1, 5, 0)", -13, 3);
        Refused.onLand("land(0, 0, 0, 30)", -13, 3);
        Refused.onLand("cell(1, 8, 1)", LOST, 3);
        Refused.onLand("cell(1, 0, 3)", LOST, 0);
        Refused.onLand("odds(0, 2)", LOST, KEPT);
        Refused.withoutLand("runs()", LOST, KEPT);
        Clause.due("LOST", VillageCuts.LOST, Long.MIN_VALUE);
        Clause.terms("fault() tells it");
        VillageCuts x = Refused.withLand();
        String[] calls = {"put(3, 0, 0)", "put(0, 29, 0)", "as(0, 2)", "sheet(3, 0, -1)", "cell(3, 0, 0)",
            "cell(0, 29, 0)", "cell(0, 0, 1)"};
        int[] faults = {1, 3, 2, 4, 1, 3, 2};
        for (int k = 0; k < calls.length; k++) {
            Calls.told(x, calls[k]);
            Clause.due("fault() behind " + calls[k], x.fault(), faults[k]);
            Clause.due("again", x.fault(), faults[k]);
        }
    }

    private static void setsAndShares() {
        Clause.terms("NONE is -9");
        Clause.due("NONE", VillageCuts.NONE, -9);
        VillageCuts x = Checks.withLand("v;ps0i1;ds7i2");
        Clause.due(x, "some(99)", -9);
        Clause.due(x, "thing(0, 0, 12)", -9);
        Clause.terms("Sets are told as bits (bit k for number k)");
        Clause.due("kinds 0, 1, 2", x.kinds(0), 7);
        Clause.due("villages 0, 1", x.now(2), 3);
        Clause.due("no letters", x.now(1), 0);
        x.happen(0);
        Clause.due("letter 0", x.now(1), 1);
        x.happen(1);
        Clause.due("letters 0 and 7", x.now(1), 129);
        x.happen(0);
        Clause.due("village 1", x.now(2), 2);
        Clause.terms("Shares are told as upper and lower number (above 0) in least terms");
        // 9 cuts: sum 0 four times, 1 and 4 twice, 5 once
        VillageCuts nine = Checks.withLand("v;pi0i1;di0i2");
        long[][] due = {{0, 1, 1}, {1, 5, 9}, {2, 1, 3}, {4, 1, 3}, {5, 1, 9}, {6, 0, 1}, {99, 0, 1}};
        for (long[] one : due) {
            Clause.due("upper of " + one[0], nine.odds((int) one[0], 0), one[1]);
            Clause.due("lower of " + one[0], nine.odds((int) one[0], 1), one[2]);
        }
    }
}
