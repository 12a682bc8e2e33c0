/** Terms, part 5, and promises 20 to 30: sheet, lose, put, cell, copy, tell, ring, as, trace, fault, many. */
final class SheetEdges {
    private static final int KEPT = Refused.KEPT;
    private static final long LOST = Refused.LOST;
    private static final String[] NO_SHEETS = {"-1", "4", "MIN", "MAX"};
    private static final String[] NO_VILLAGES = {"-1", "4", "MIN", "MAX"};
    private static final String KINDS = "v;pi3i4;bi5i6;di7i8";

    private SheetEdges() {
    }

    static void all() {
        sheets();
        lanes();
        telling();
        ringing();
        sheet();
        lose();
        put();
        cell();
        copy();
        copyFaults();
        tellAndRing();
        as();
        trace();
        fault();
        many();
    }

    private static void rowIs(VillageCuts x, int k, int lane, int... cells) {
        for (int i = 0; i < cells.length; i++) {
            Clause.due("cell " + i + " of " + k, x.cell(k, i, lane), cells[i]);
        }
        Clause.due("cell behind the last of " + k, x.cell(k, cells.length, lane), LOST);
    }

    private static void sheets() {
        Clause.terms("SHEETS 0 .. 3 have nothing (at first), or a row of 0 .. 60 numbers (0 at first) of a LANE: "
            + "0 bytes, 1 shorts, 2 ints");
        VillageCuts x = new VillageCuts();
        for (int k = 0; k < 4; k++) {
            Clause.due("nothing in " + k, x.cell(k, 0, 0), LOST);
            Clause.due("nothing in " + k, x.fault(), 1);
        }
        int[] lengths = {0, 1, 59, 60};
        for (int k = 0; k < 4; k++) {
            for (int lane = 0; lane < 3; lane++) {
                Clause.due("a row", x.sheet(k, lane, lengths[k]), 1);
                for (int i = 0; i < lengths[k]; i += 29) {
                    Clause.due("0 at first", x.cell(k, i, lane), 0);
                }
                Clause.due("none behind", x.cell(k, lengths[k], lane), LOST);
                Clause.due("none behind", x.fault(), 3);
                Clause.due("none ahead", x.put(k, -1, 1), -13);
            }
        }
        Clause.due("last of 60", x.cell(3, 59, 2), 0);
        Clause.due(x, "sheet(0, 0, 61)", -2);
        Clause.due(x, "sheet(4, 0, 0)", -1);
        Clause.due(x, "sheet(-1, 0, 0)", -1);
    }

    private static void lanes() {
        Clause.terms("what comes to a cell of it is cut to its LANE.");
        int[] values = {0, 127, 128, 255, 256, -128, -129, 32767, 32768, 65535, 65536, -32768, -32769,
            Integer.MAX_VALUE, Integer.MIN_VALUE};
        int[] bytes = {0, 127, -128, -1, 0, -128, 127, -1, 0, -1, 0, 0, -1, -1, 0};
        int[] shorts = {0, 127, 128, 255, 256, -128, -129, 32767, -32768, -1, 0, -32768, 32767, -1, 0};
        VillageCuts x = new VillageCuts();
        Checks.row(x, 0, 0, values);
        Checks.row(x, 1, 1, values);
        Checks.row(x, 2, 2, values);
        rowIs(x, 0, 0, bytes);
        rowIs(x, 1, 1, shorts);
        rowIs(x, 2, 2, values);
    }

    private static void told(VillageCuts x, int v, int want, int... bodies) {
        int trace = x.trace();
        for (int body : bodies) {
            trace = 31 * trace + body;
        }
        Clause.due("tell " + v, x.tell(v), want);
        Clause.due("trace behind tell " + v, x.trace(), trace);
    }

    private static void rung(VillageCuts x, int v, int want, int body) {
        int trace = 31 * x.trace() + body;
        Clause.due("ring " + v, x.ring(v), want);
        Clause.due("trace behind ring " + v, x.trace(), trace);
    }

    private static void telling() {
        Clause.terms("TELLING of VILLAGES by bodies that leave their number in TRACE (an int that wraps, 0 at first, "
            + "becomes 31 times it and the number) as they begin");
        VillageCuts x = Checks.withLand(KINDS);
        // 1, then 31 times it and 1, and so on; the eighth goes beyond an int
        long[] due = {0, 1, 32, 993, 30784, 954305, 29583456, 917087137, -1635069824, 852443009};
        for (long trace : due) {
            Clause.due("trace", x.trace(), trace);
            x.tell(0);
        }
        VillageCuts doubled = Checks.withLand(KINDS);
        doubled.tell(2);
        Clause.due("3, 2, 1, 1 as they begin", doubled.trace(), ((3 * 31 + 2) * 31 + 1) * 31 + 1);
        Clause.terms("PLAIN (1): VALUE, as it is NOW.");
        VillageCuts plain = Checks.withLand("v;pi9i0;pi1");
        told(plain, 0, 0, 1);
        plain.happen(0);
        told(plain, 0, 9, 1);
        plain.happen(0);
        told(plain, 0, 0, 1);
        Clause.terms("BROAD (2): what PLAIN's gives, and 100.");
        VillageCuts broad = Checks.withLand("v;bi9i0;pi1");
        told(broad, 0, 100, 2, 1);
        broad.happen(0);
        told(broad, 0, 109, 2, 1);
        broad.happen(0);
        told(broad, 0, 100, 2, 1);
        Clause.terms("DOUBLE (3): what BROAD's gives, and what PLAIN's gives (BROAD's left out).");
        VillageCuts twice = Checks.withLand("v;di9i0;pi1");
        told(twice, 0, 100, 3, 2, 1, 1);
        twice.happen(0);
        told(twice, 0, 118, 3, 2, 1, 1);
        twice.happen(0);
        told(twice, 0, 100, 3, 2, 1, 1);
    }

    private static void ringing() {
        Clause.terms("RUNG by a lent body (4): how many of its THINGS have HAPPENED");
        VillageCuts x = Checks.withLand("v;pi1i2i3i4i5;bi1s0;di1i2");
        for (int count = 0; count <= 5; count++) {
            rung(x, 0, count, 4);
            x.happen(0);
        }
        for (int count = 0; count <= 2; count++) {
            rung(x, 1, count, 4);
            x.happen(1);
        }
        Clause.terms("DOUBLE ones have their own (5): 50.");
        for (int count = 0; count <= 2; count++) {
            rung(x, 2, 50, 5);
            x.happen(2);
        }
    }

    private static void sheet() {
        Clause.promise(20, "A SHEET gets a new row: 1.");
        VillageCuts x = new VillageCuts();
        Checks.row(x, 0, 0, 7, 8, 9);
        Clause.due(x, "sheet(0, 0, 3)", 1);
        rowIs(x, 0, 0, 0, 0, 0);
        x.put(0, 2, 9);
        Clause.due(x, "sheet(0, 2, 0)", 1);
        rowIs(x, 0, 2);
        Clause.due("of another lane now", x.cell(0, 0, 0), LOST);
        Clause.due(x, "fault()", 2);
        Clause.due(x, "sheet(0, 1, 60)", 1);
        Clause.due("nothing is left of earlier ones", x.cell(0, 2, 1), 0);
        Clause.due(x, "cell(0, 59, 1)", 0);
        Clause.due("other sheets are as they were", x.lose(1), 0);
        Clause.promise(20, "UNKNOWN");
        for (String k : NO_SHEETS) {
            Refused.onLand("sheet(" + k + ", 0, 5)", -1, 0);
            Refused.onLand("sheet(" + k + ", 3, 61)", -1, 0);
            Refused.onLand("sheet(" + k + ", 0, -1)", -1, 0);
        }
        Clause.promise(20, "OUTSIDE: lane, n above 60");
        String[] outside = {"-1, 5", "3, 5", "MIN, 5", "MAX, 5", "0, 61", "0, MAX", "3, -1", "-1, MIN"};
        for (String a : outside) {
            Refused.onLand("sheet(1, " + a + ")", -2, 0);
            Refused.onLand("sheet(3, " + a + ")", -2, 0);
        }
        Clause.promise(20, "SIZE");
        Refused.onLand("sheet(1, 1, -1)", -14, 4);
        Refused.onLand("sheet(3, 0, -1)", -14, 4);
        Refused.onLand("sheet(1, 2, MIN)", -14, 4);
    }

    private static void lose() {
        Clause.promise(21, "A SHEET has nothing: 1");
        VillageCuts x = new VillageCuts();
        x.sheet(0, 0, 0);
        x.sheet(3, 2, 60);
        Clause.due("a row of none is a row", x.lose(0), 1);
        Clause.due(x, "lose(3)", 1);
        Clause.due("nothing to put into", x.put(3, 0, 0), -11);
        Clause.due("nothing of any lane", x.cell(3, 0, 0), LOST);
        Clause.due(x, "fault()", 1);
        Clause.due("names no FAULTS", x.lose(0), 0);
        Clause.due(x, "fault()", 1);
        VillageCuts land = Refused.withLand();
        Clause.due(land, "lose(0)", 1);
        Clause.due("the land stays", land.many(0), 4);
        Clause.promise(21, "0: it had nothing.");
        Clause.due(x, "lose(0)", 0);
        Clause.due(x, "lose(3)", 0);
        Clause.due(x, "lose(1)", 0);
        Clause.promise(21, "UNKNOWN.");
        for (String k : NO_SHEETS) {
            Refused.onLand("lose(" + k + ")", -1, KEPT);
        }
    }

    private static void put() {
        Clause.promise(22, "Cell i of a SHEET becomes v: 1.");
        VillageCuts x = new VillageCuts();
        x.sheet(1, 2, 60);
        Clause.due(x, "put(1, 0, MIN)", 1);
        Clause.due(x, "put(1, 59, MAX)", 1);
        Clause.due(x, "cell(1, 0, 2)", Integer.MIN_VALUE);
        Clause.due(x, "cell(1, 1, 2)", 0);
        Clause.due(x, "cell(1, 58, 2)", 0);
        Clause.due(x, "cell(1, 59, 2)", Integer.MAX_VALUE);
        Clause.due(x, "fault()", 0);
        Clause.promise(22, "UNKNOWN");
        for (String k : NO_SHEETS) {
            Refused.onLand("put(" + k + ", -1, 0)", -1, 0);
        }
        Clause.promise(22, "NULL");
        Refused.onLand("put(3, 0, 1)", -11, 1);
        Refused.onLand("put(3, -1, 1)", -11, 1);
        Refused.onLand("put(3, 60, 1)", -11, 1);
        Clause.promise(22, "INDEX");
        String[] places = {"-1", "8", "59", "60", "MIN", "MAX"};
        for (String i : places) {
            Refused.onLand("put(1, " + i + ", 1)", -13, 3);
        }
        x.sheet(0, 0, 0);
        Clause.due("a row of none", x.put(0, 0, 1), -13);
        x.sheet(1, 2, 1);
        Clause.due("a shorter row behind a longer", x.put(1, 1, 1), -13);
    }

    private static void cell() {
        Clause.promise(23, "Cell i of what a SHEET has, taken as a row of a LANE.");
        VillageCuts x = new VillageCuts();
        for (int lane = 0; lane < 3; lane++) {
            Checks.row(x, lane, lane, -128, 5, 127);
            rowIs(x, lane, lane, -128, 5, 127);
        }
        Clause.promise(23, "LOST: UNKNOWN, OUTSIDE: lane");
        for (String k : NO_SHEETS) {
            Refused.onLand("cell(" + k + ", 0, 0)", LOST, 0);
            Refused.onLand("cell(" + k + ", -1, 3)", LOST, 0);
        }
        String[] noLanes = {"-1", "3", "MIN", "MAX"};
        for (String lane : noLanes) {
            Refused.onLand("cell(1, 0, " + lane + ")", LOST, 0);
            Refused.onLand("cell(3, -1, " + lane + ")", LOST, 0);
        }
        Clause.promise(23, "FAULTS CAST (nothing is no CAST)");
        Refused.onLand("cell(0, 0, 1)", LOST, 2);
        Refused.onLand("cell(1, -1, 0)", LOST, 2);
        Refused.onLand("cell(2, 99, 1)", LOST, 2);
        Refused.onLand("cell(3, 0, 0)", LOST, 1);
        Refused.onLand("cell(3, 0, 1)", LOST, 1);
        Refused.onLand("cell(3, 0, 2)", LOST, 1);
        Clause.promise(23, "NULL");
        Refused.onLand("cell(3, -1, 0)", LOST, 1);
        Refused.onLand("cell(3, MAX, 2)", LOST, 1);
        Clause.promise(23, "INDEX");
        String[] places = {"-1", "8", "60", "MIN", "MAX"};
        for (String i : places) {
            Refused.onLand("cell(1, " + i + ", 1)", LOST, 3);
        }
        x.sheet(3, 1, 0);
        Clause.due(x, "cell(3, 0, 1)", LOST);
        Clause.due(x, "fault()", 3);
    }

    private static void copy() {
        Clause.promise(24, "n cells of a SHEET from i on go to another one (perhaps the same) from j on, as they were: "
            + "n.");
        VillageCuts x = new VillageCuts();
        Checks.row(x, 0, 1, 1, 2, 3, 4, 5);
        Checks.row(x, 1, 1, 9, 9, 9);
        Clause.due(x, "copy(0, 3, 1, 1, 2)", 2);
        rowIs(x, 1, 1, 9, 4, 5);
        rowIs(x, 0, 1, 1, 2, 3, 4, 5);
        Clause.due("all", x.copy(1, 0, 0, 2, 3), 3);
        rowIs(x, 0, 1, 1, 2, 9, 4, 5);
        Clause.due("none", x.copy(0, 5, 1, 3, 0), 0);
        rowIs(x, 1, 1, 9, 4, 5);
        Clause.due("forth in the same", x.copy(0, 0, 0, 1, 4), 4);
        rowIs(x, 0, 1, 1, 1, 2, 9, 4);
        Clause.due("back in the same", x.copy(0, 1, 0, 0, 4), 4);
        rowIs(x, 0, 1, 1, 2, 9, 4, 4);
        Clause.due("onto itself", x.copy(0, 0, 0, 0, 5), 5);
        rowIs(x, 0, 1, 1, 2, 9, 4, 4);
        VillageCuts longest = new VillageCuts();
        longest.sheet(0, 2, 60);
        longest.sheet(1, 2, 60);
        longest.put(0, 0, Integer.MIN_VALUE);
        longest.put(0, 59, Integer.MAX_VALUE);
        Clause.due(longest, "copy(0, 0, 1, 0, 60)", 60);
        Clause.due(longest, "cell(1, 0, 2)", Integer.MIN_VALUE);
        Clause.due(longest, "cell(1, 59, 2)", Integer.MAX_VALUE);
        Clause.due("from now on apart", longest.put(0, 0, 1), 1);
        Clause.due(longest, "cell(1, 0, 2)", Integer.MIN_VALUE);
    }

    private static void copyFaults() {
        Clause.promise(24, "UNKNOWN");
        for (String k : NO_SHEETS) {
            Refused.onLand("copy(" + k + ", -1, 3, -1, -1)", -1, 0);
            Refused.onLand("copy(3, -1, " + k + ", -1, -1)", -1, 0);
        }
        Clause.promise(24, "FAULTS NULL (the first, the other)");
        Refused.onLand("copy(3, -1, 1, -1, -1)", -11, 1);
        Refused.onLand("copy(1, -1, 3, -1, -1)", -11, 1);
        Refused.onLand("copy(3, 0, 3, 0, 0)", -11, 1);
        Clause.promise(24, "CAST (unlike LANES)");
        Refused.onLand("copy(0, -1, 1, -1, -1)", -12, 2);
        Refused.onLand("copy(1, 0, 2, 0, 0)", -12, 2);
        Refused.onLand("copy(2, 0, 0, 0, 5)", -12, 2);
        Clause.promise(24, "INDEX: i, j, n below 0 or beyond.");
        String[] places = {"-1, 0, 0", "9, 0, 0", "0, -1, 0", "0, 9, 0", "0, 0, -1", "0, 0, 9", "1, 0, 8", "0, 1, 8",
            "8, 0, 1", "0, 8, 1", "MIN, 0, 1", "MAX, 0, 1", "0, MIN, 1", "0, MAX, 1", "0, 0, MIN", "0, 0, MAX",
            "1, 0, MAX", "0, 1, MAX", "MAX, MAX, MAX", "8, 8, -8", "MAX, 0, MIN"};
        for (String a : places) {
            String[] p = a.split(", ");
            Refused.onLand("copy(1, " + p[0] + ", 1, " + p[1] + ", " + p[2] + ")", -13, 3);
        }
        VillageCuts x = new VillageCuts();
        Checks.row(x, 0, 1, 1, 2, 3, 4, 5);
        Checks.row(x, 1, 1, 9, 9, 9);
        Clause.due("more than the other has", x.copy(0, 0, 1, 0, 4), -13);
        Clause.due("more than the first has", x.copy(1, 0, 0, 0, 4), -13);
        rowIs(x, 0, 1, 1, 2, 3, 4, 5);
        rowIs(x, 1, 1, 9, 9, 9);
    }

    private static void tellAndRing() {
        Clause.promise(25, "TELLING of a VILLAGE.");
        VillageCuts x = Checks.withLand(KINDS);
        told(x, 0, 0, 1);
        told(x, 1, 100, 2, 1);
        told(x, 2, 100, 3, 2, 1, 1);
        for (int v = 0; v < 3; v++) {
            x.happen(v);
        }
        told(x, 0, 3, 1);
        told(x, 1, 105, 2, 1);
        told(x, 2, 114, 3, 2, 1, 1);
        Clause.due("names no FAULTS", x.fault(), 0);
        Clause.promise(25, "UNKNOWN.");
        for (String v : NO_VILLAGES) {
            Refused.onLand("tell(" + v + ")", -1, KEPT);
        }
        Refused.withoutLand("tell(0)", -1, KEPT);
        Clause.due(x, "tell(3)", -1);
        Clause.promise(26, "How it is RUNG.");
        rung(x, 0, 1, 4);
        rung(x, 1, 1, 4);
        rung(x, 2, 50, 5);
        x.anew();
        rung(x, 0, 0, 4);
        rung(x, 2, 50, 5);
        Clause.promise(26, "UNKNOWN.");
        for (String v : NO_VILLAGES) {
            Refused.onLand("ring(" + v + ")", -1, KEPT);
        }
        Refused.withoutLand("ring(0)", -1, KEPT);
        Clause.due(x, "ring(3)", -1);
    }

    private static void as() {
        Clause.promise(27, "A VILLAGE, taken as one of a kind: 1.");
        VillageCuts x = Checks.withLand(KINDS);
        for (int v = 0; v < 3; v++) {
            x.sheet(0, 0, -1);
            Clause.due("as its own kind", x.as(v, v), 1);
            Clause.due(x, "fault()", 0);
            Clause.due("it stays as it is", x.ofVillage(v, 0), v);
        }
        Clause.due("no trace", x.trace(), 0);
        Clause.promise(27, "UNKNOWN");
        for (String v : NO_VILLAGES) {
            Refused.onLand("as(" + v + ", 0)", -1, 0);
            Refused.onLand("as(" + v + ", 3)", -1, 0);
        }
        Refused.withoutLand("as(0, 0)", -1, 0);
        Clause.promise(27, "OUTSIDE");
        String[] noKinds = {"-1", "3", "MIN", "MAX"};
        for (String kind : noKinds) {
            Refused.onLand("as(0, " + kind + ")", -2, 0);
            Refused.onLand("as(2, " + kind + ")", -2, 0);
        }
        Clause.promise(27, "CAST: it is none");
        Refused.onLand("as(0, 1)", -12, 2);
        Refused.onLand("as(0, 2)", -12, 2);
        Refused.onLand("as(1, 2)", -12, 2);
        Clause.promise(27, "(each is a PLAIN one, too");
        for (int v = 0; v < 3; v++) {
            Clause.due("as plain " + v, x.as(v, 0), 1);
        }
        Clause.promise(27, "a DOUBLE one is a BROAD one)");
        Clause.due(x, "as(2, 1)", 1);
        Clause.due(x, "as(1, 1)", 1);
    }

    private static void trace() {
        Clause.promise(28, "TRACE.");
        VillageCuts x = Checks.withLand(KINDS);
        Clause.due(x, "trace()", 0);
        x.ring(0);
        Clause.due(x, "trace()", 4);
        Clause.due("asking leaves none", x.trace(), 4);
        x.ring(2);
        Clause.due(x, "trace()", 4 * 31 + 5);
        x.tell(9);
        Clause.due("nor does a refused call", x.trace(), 4 * 31 + 5);
        for (int k = 0; k < 10; k++) {
            x.ring(0);
        }
        int due = 4 * 31 + 5;
        for (int k = 0; k < 10; k++) {
            due = 31 * due + 4;
        }
        Clause.due("it wraps", x.trace(), due);
    }

    private static void fault() {
        Clause.promise(29, "The FAULT of the latest call that names one");
        VillageCuts x = Refused.withLand();
        String[] notNaming = {"ofVillage(0, 0)", "thing(0, 0, 0)", "ahead(0, 0, 0, 0)", "happen(1)", "anew()",
            "now(0)", "cuts()", "runs()", "first(0)", "some(0)", "every(0)", "back(1)", "kinds(0)", "odds(0, 0)",
            "lose(3)", "tell(0)", "ring(0)", "trace()", "fault()", "many(0)", "lose(4)", "back(9)", "many(9)"};
        for (String call : notNaming) {
            Calls.told(x, call);
            Clause.due("fault() behind " + call, x.fault(), KEPT);
        }
        String[] naming = {"put(3, 0, 0)", "cell(0, 0, 1)", "copy(1, 9, 1, 0, 0)", "sheet(0, 0, -1)",
            "land(3, 0, 0, 0)", "cut(0, 1, 0, 0)", "tale(1, 1, 9, 0, 0)", "reading(3, 0, 0, 0)", "as(0, 1)"};
        int[] due = {1, 2, 3, 4, 1, 2, 3, 1, 2};
        for (int k = 0; k < naming.length; k++) {
            Calls.told(x, naming[k]);
            Clause.due("fault() behind " + naming[k], x.fault(), due[k]);
        }
        Clause.promise(29, "0: it came to none");
        String[] fine = {"put(1, 7, 3)", "cell(0, 0, 0)", "copy(1, 0, 1, 0, 0)", "sheet(3, 0, 0)",
            "land(0, 0, 0, 29)", "cut(1, 1, 0, 0)", "tale(1, 1, 0, 0, 0)", "reading(1, 1, 0, 4)", "as(0, 0)",
            "land(0, 0, 0, 28)", "tale(2, 2, 1, 1, 0)"};
        for (String call : fine) {
            Calls.told(x, "sheet(0, 0, -1)");
            Calls.told(x, call);
            Clause.due("fault() behind " + call, x.fault(), 0);
        }
        Clause.promise(29, "or was refused");
        String[] refused = {"put(4, 0, 0)", "cell(4, 0, 0)", "cell(0, 0, 3)", "copy(1, 0, 4, 0, 0)", "sheet(4, 0, 0)",
            "sheet(0, 0, 61)", "land(4, 0, 0, 0)", "land(0, 3, 0, 0)", "cut(4, 0, 0, 0)", "cut(1, 1, 4, 0)",
            "tale(4, 0, 0, 0, 0)", "tale(2, 2, 4, 1, 0)", "reading(1, 1, 0, 100)", "reading(1, 1, 4, 0)", "as(4, 0)",
            "as(0, 3)"};
        for (String call : refused) {
            Calls.told(x, "sheet(0, 0, -1)");
            Calls.told(x, call);
            Clause.due("fault() behind " + call, x.fault(), 0);
        }
        Clause.promise(29, "(0 ahead of any)");
        VillageCuts none = new VillageCuts();
        Clause.due(none, "fault()", 0);
        none.lose(0);
        none.many(0);
        Clause.due(none, "fault()", 0);
    }

    private static void many() {
        Clause.promise(30, "How many: 0 VILLAGES, 1 THINGS, 2 THINGS that have HAPPENED, 3 LETTERS that are SENT by "
            + "any THING, 4 READINGS");
        VillageCuts x = Refused.withFullReadings();
        manyAre(x, 4, 10, 3, 3, 8);
        manyAre(Checks.withLand("v;pi1;pi1"), 2, 2, 0, 0, 0);
        manyAre(Checks.withLand("v;ps0s1s2s3s4;ps5s6s7"), 2, 8, 0, 8, 0);
        manyAre(Checks.withLand("v;pi1i1i1i1i1;pi1i1i1i1i1;pi1i1i1i1i1;pi1i1i1i1i1"), 4, 20, 0, 0, 0);
        VillageCuts got = Checks.withLand("v;ps0;pg0i1");
        manyAre(got, 2, 3, 0, 1, 0);
        got.happen(0);
        got.happen(1);
        manyAre(got, 2, 3, 2, 1, 0);
        Clause.promise(30, "(0 all without a LAND).");
        manyAre(new VillageCuts(), 0, 0, 0, 0, 0);
        VillageCuts none = Refused.withoutLand();
        none.land(0, 0, 0, 28);
        manyAre(none, 0, 0, 0, 0, 0);
        Clause.promise(30, "OUTSIDE.");
        String[] outside = {"-1", "5", "MIN", "MAX"};
        for (String what : outside) {
            Refused.onLand("many(" + what + ")", -2, KEPT);
            Refused.withoutLand("many(" + what + ")", -2, KEPT);
        }
    }

    private static void manyAre(VillageCuts x, int... due) {
        for (int what = 0; what < due.length; what++) {
            Clause.due("many " + what, x.many(what), due[what]);
        }
    }
}
