/** Terms, part 2, and promises 6 to 10: happen, anew, cut, now, tale. */
final class CutEdges {
    private static final int KEPT = Refused.KEPT;
    private static final String[] NO_SHEETS = {"-1", "4", "MIN", "MAX"};
    private static final String[] NO_LANES = {"-1", "3", "MIN", "MAX"};
    private static final String[] NO_QUESTIONS = {"-1", "4", "9", "14", "MIN", "MAX"};
    private static final String THREE = "v;ps0g1i5;bg0s1;ds7i9";

    private CutEdges() {
    }

    static void all() {
        cuts();
        underWay();
        nowIsACut();
        runsAndTales();
        happen();
        anew();
        cut();
        cutRefusals();
        now();
        tale();
        taleOfOneWrong();
        taleRefusals();
    }

    private static void cutIs(VillageCuts x, int what, int want, int... cells) {
        Clause.due("what " + what + " of cut " + java.util.Arrays.toString(cells), Checks.cut(x, what, cells), want);
    }

    private static void taleIs(VillageCuts x, int what, int want, int... cells) {
        Clause.due("what " + what + " of tale " + java.util.Arrays.toString(cells), Checks.tale(x, what, cells), want);
    }

    private static void cuts() {
        Clause.terms("A CUT: of each VILLAGE how many THINGS of it (the first ones) are in it.");
        VillageCuts x = Checks.withLand("v;pi1i2i3i4i5;di6");
        int[] values = {0, 1, 2, 3, 4, 5};
        for (int count = 0; count <= 5; count++) {
            cutIs(x, 1, values[count], count, 0);
            cutIs(x, 1, values[count] + 12, count, 1);
        }
        Clause.terms("It CAN BE, if with each THING all that are AHEAD of it are in it.");
        VillageCuts letter = Checks.withLand("v;pi1s0i1;pi1g0i1");
        int[][] can = {{0, 0}, {0, 1}, {1, 1}, {2, 2}, {2, 3}, {3, 0}, {3, 3}};
        for (int[] cells : can) {
            cutIs(letter, 0, 1, cells);
        }
        int[][] cannot = {{0, 2}, {1, 2}, {1, 3}, {0, 3}};
        for (int[] cells : cannot) {
            cutIs(letter, 0, 0, cells);
        }
        VillageCuts turned = Checks.withLand("v;pg0;ps0");
        cutIs(turned, 0, 0, 1, 0);
        cutIs(turned, 0, 1, 0, 1);
        VillageCuts chain = Checks.withLand("v;ps0;pg0s1;pg1s2;pg2");
        cutIs(chain, 0, 1, 1, 2, 2, 1);
        cutIs(chain, 0, 0, 0, 2, 2, 1);
        cutIs(chain, 0, 0, 1, 1, 1, 0);
        cutIs(chain, 0, 1, 1, 2, 1, 0);
        Clause.terms("SUM of a CUT: WORTH of all VILLAGES, as VALUES are by what is in it, together.");
        cutIs(Checks.withLand("v;di9;di9;di9;di9"), 1, 72, 1, 1, 1, 1);
        cutIs(Checks.withLand("v;bi9;bi9;bi9;bi9"), 1, 4, 0, 0, 0, 0);
        cutIs(Checks.withLand("v;bi9;bi9;bi9;bi9"), 1, 40, 1, 1, 1, 1);
        cutIs(Checks.withLand("v;pi9;pi9"), 1, 0, 0, 0);
        VillageCuts now = Checks.withLand("v;pi9;pi8");
        now.happen(0);
        cutIs(now, 1, 8, 0, 1);
    }

    private static void underWay() {
        Clause.terms("UNDER WAY there: LETTERS that are SENT in it and not GOT in it");
        VillageCuts x = Checks.withLand("v;ps0s7;pg7g0");
        cutIs(x, 2, 0, 0, 0);
        cutIs(x, 2, 1, 1, 0);
        cutIs(x, 2, 129, 2, 0);
        cutIs(x, 2, 1, 2, 1);
        cutIs(x, 2, 0, 2, 2);
        // got there, but not sent there: it can't be, and is not under way
        cutIs(x, 2, 0, 0, 2);
        cutIs(x, 2, 1, 1, 1);
        Clause.terms("(GOT nowhere, too)");
        VillageCuts nowhere = Checks.withLand("v;ps0s1s2s3;ps4s5s6s7");
        cutIs(nowhere, 2, 255, 4, 4);
        cutIs(nowhere, 2, 128 + 64 + 32 + 16, 0, 4);
        cutIs(nowhere, 2, 0, 0, 0);
    }

    private static void nowIsACut() {
        Clause.terms("NOW is a CUT: what has HAPPENED (nothing at first).");
        VillageCuts x = Checks.withLand(THREE);
        Clause.due(x, "many(2)", 0);
        Clause.due(x, "now(0)", 1);
        Clause.due(x, "now(1)", 0);
        int[] run = {0, 1, 1, 0, 0, 2, 2};
        for (int k = 0; k < run.length; k++) {
            x.happen(run[k]);
            Clause.due("happened", x.many(2), k + 1);
        }
        Clause.due("all", x.now(0), 24);
        cutIs(x, 1, 24, 3, 2, 2);
        Clause.terms("The next THING of a VILLAGE HAPPENS, if all that are AHEAD of it have HAPPENED.");
        VillageCuts chain = Checks.withLand("v;pg2;pg1s2;pg0s1;ps0");
        for (int v = 0; v < 3; v++) {
            Clause.due("not yet " + v, chain.happen(v), -3);
        }
        int[] only = {3, 2, 2, 1, 1, 0};
        for (int v : only) {
            Clause.due("villages that go on", chain.now(2), 1 << v);
            Clause.due("goes on " + v, chain.happen(v) >= 0 ? 1 : 0, 1);
        }
        Clause.due(chain, "now(2)", 0);
    }

    private static void runsAndTales() {
        Clause.terms("A RUN: all THINGS one behind another, each behind all that are AHEAD of it: as a row of VILLAGES "
            + "(whose next THING it is).");
        Clause.due(Checks.withLand("v;pi1;pi1"), "runs()", 2);
        Clause.due(Checks.withLand("v;pg0;ps0"), "runs()", 1);
        VillageCuts x = Checks.withLand("v;pi1g0;pi1s0");
        Clause.due(x, "runs()", 3);
        int[] first = {0, 1, 1, 0};
        for (int k = 0; k < 4; k++) {
            Clause.due("first " + k, x.first(k), first[k]);
        }
        Clause.terms("A TALE told: a row of VILLAGES, one behind another, from NOW on (nothing is changed): the next "
            + "THING of each HAPPENS.");
        taleIs(x, 10, 2, 0, 1, 1, 0);
        taleIs(x, 11, 2, 0, 1, 1, 0);
        Clause.due(x, "many(2)", 0);
        x.happen(0);
        x.happen(1);
        taleIs(x, 10, 2, 1, 0);
        taleIs(x, 10, 1);
        taleIs(x, 1, 0, 0, 1);
        Clause.due(x, "many(2)", 2);
        Clause.due(x, "ofVillage(0, 2)", 1);
        Clause.terms("FIRST WRONG: the first act that can't be (there is no next one, it can't HAPPEN yet).");
        VillageCuts wrong = Checks.withLand("v;pi1g0;pi1s0");
        taleIs(wrong, 1, 1, 0, 0, 1, 1);
        taleIs(wrong, 1, 2, 0, 1, 0, 1);
        taleIs(wrong, 1, 2, 1, 1, 1, 1);
        taleIs(wrong, 1, 4, 1, 1, 0, 0, 0, 1);
        taleIs(wrong, 1, -9, 1, 1, 0, 0);
        VillageCuts at0 = Checks.withLand("v;pg0;ps0");
        taleIs(at0, 1, 0, 0);
        VillageCuts all = Checks.withLand("v;pi1i1i1i1i1;pi1i1i1i1i1;pi1i1i1i1i1;pi1i1i1i1s0");
        taleIs(all, 1, 19, 0, 0, 0, 0, 0, 1, 1, 1, 1, 1, 2, 2, 2, 2, 2, 3, 3, 3, 3, 0);
    }

    private static void happen() {
        Clause.promise(6, "The next THING of a VILLAGE HAPPENS: which it is.");
        VillageCuts x = Checks.withLand("v;pi1i2i3i4i5;pi1");
        for (int t = 0; t < 5; t++) {
            Clause.due("which", x.happen(0), t);
        }
        Clause.due(x, "happen(1)", 0);
        Clause.promise(6, "UNKNOWN");
        String[] unknown = {"happen(-1)", "happen(4)", "happen(MIN)", "happen(MAX)"};
        for (String call : unknown) {
            Refused.onLand(call, -1, KEPT);
        }
        Refused.withoutLand("happen(0)", -1, KEPT);
        Clause.due(x, "happen(2)", -1);
        Clause.promise(6, "STATE: there is none");
        Clause.due(x, "happen(0)", -3);
        Clause.due(x, "happen(1)", -3);
        Clause.due(x, "many(2)", 6);
        Clause.promise(6, "it can't yet");
        Refused.onLand("happen(0)", -3, KEPT);
        VillageCuts wait = Checks.withLand("v;pg0;pi1s0");
        Clause.due(wait, "happen(0)", -3);
        wait.happen(1);
        Clause.due(wait, "happen(0)", -3);
        wait.happen(1);
        Clause.due(wait, "happen(0)", 0);
    }

    private static void anew() {
        Clause.promise(7, "Nothing has HAPPENED: how many THINGS had.");
        VillageCuts x = Checks.withLand("v;pi1i2;pi3s0;dg0i9");
        Clause.due(x, "anew()", 0);
        int[] run = {0, 1, 1, 2, 2, 0};
        for (int v : run) {
            x.happen(v);
        }
        Clause.due(x, "now(0)", 23);
        Clause.due(x, "anew()", 6);
        Clause.due(x, "many(2)", 0);
        Clause.due(x, "now(0)", 0);
        Clause.due(x, "now(1)", 0);
        Clause.due(x, "anew()", 0);
        Clause.due(x, "happen(2)", -3);
        Clause.due(x, "happen(0)", 0);
        Clause.due(x, "anew()", 1);
        VillageCuts read = Refused.withLand();
        Clause.due(read, "anew()", 3);
        Clause.due("readings stay", read.many(4), 1);
        Clause.due("trace stays", read.trace(), 1);
        Clause.due("names no FAULTS", read.fault(), KEPT);
        Clause.promise(7, "STATE: there is no LAND.");
        Refused.withoutLand("anew()", -3, KEPT);
    }

    private static void cut() {
        Clause.promise(8, "A CUT told by as many cells of a SHEET from i on as there are VILLAGES");
        VillageCuts x = Checks.withLand("v;pi1;pi2i3");
        for (int lane = 0; lane < 3; lane++) {
            Checks.row(x, lane, lane, 9, 1, 2, 9);
            Clause.due("lane " + lane, x.cut(lane, lane, 1, 1), 4);
            Clause.due("lane " + lane, x.cut(lane, lane, 0, 1), -2);
            Clause.due("lane " + lane, x.cut(lane, lane, 2, 1), -2);
        }
        Clause.promise(8, "whether it CAN BE (what 0; 1, 0)");
        VillageCuts letter = Checks.withLand("v;ps0;pg0");
        cutIs(letter, 0, 1, 0, 0);
        cutIs(letter, 0, 1, 1, 0);
        cutIs(letter, 0, 0, 0, 1);
        cutIs(letter, 0, 1, 1, 1);
        Clause.promise(8, "its SUM (1)");
        cutIs(Checks.withLand("v;bi9;di9"), 1, 28, 1, 1);
        cutIs(Checks.withLand("v;bi9;di9"), 1, 1, 0, 0);
        Clause.due("of one that can't be", Checks.cut(Checks.withLand("v;ps0;pg0i4"), 1, 0, 2), 4);
        Clause.promise(8, "LETTERS that are UNDER WAY there, as a set (2)");
        cutIs(Checks.withLand("v;ps0;ps7"), 2, 129, 1, 1);
        cutIs(Checks.withLand("v;ps0;ps7"), 2, 0, 0, 0);
        Clause.promise(8, "how many THINGS are in CLOSED (3)");
        VillageCuts chain = Checks.withLand("v;pi1s0i1;pg0s1;pg1s2;pg2");
        cutIs(chain, 3, 0, 0, 0, 0, 0);
        cutIs(chain, 3, 7, 0, 0, 0, 1);
        cutIs(chain, 3, 8, 3, 2, 2, 1);
        cutIs(chain, 3, 3, 0, 1, 0, 0);
        cutIs(chain, 3, 4, 3, 1, 0, 0);
        Clause.promise(8, "how many of VILLAGE v are in CLOSED (10 and v");
        int[] due = {2, 2, 2, 1};
        for (int v = 0; v < 4; v++) {
            cutIs(chain, 10 + v, due[v], 0, 0, 0, 1);
            cutIs(chain, 10 + v, 0, 0, 0, 0, 0);
        }
        Clause.promise(8, "NONE: there is no such VILLAGE)");
        cutIs(letter, 11, 0, 0, 0);
        cutIs(letter, 12, -9, 0, 0);
        cutIs(letter, 13, -9, 0, 0);
        VillageCuts three = Checks.withLand(THREE);
        cutIs(three, 12, 0, 0, 0, 0);
        cutIs(three, 13, -9, 0, 0, 0);
    }

    private static void cutRefusals() {
        Clause.promise(8, "STATE: there is no LAND");
        Refused.withoutLand("cut(1, 1, 0, 0)", -3, 0);
        Refused.withoutLand("cut(4, 3, -1, 4)", -3, 0);
        Refused.withoutLand("cut(3, 0, 0, 0)", -3, 0);
        Clause.promise(8, "UNKNOWN: SHEET");
        for (String k : NO_SHEETS) {
            Refused.onLand("cut(" + k + ", 3, -1, 4)", -1, 0);
        }
        Clause.promise(8, "OUTSIDE: lane, what (0 .. 3, 10 .. 13)");
        for (String lane : NO_LANES) {
            Refused.onLand("cut(1, " + lane + ", 0, 0)", -2, 0);
            Refused.onLand("cut(3, " + lane + ", -1, 0)", -2, 0);
        }
        for (String what : NO_QUESTIONS) {
            Refused.onLand("cut(1, 1, 0, " + what + ")", -2, 0);
            Refused.onLand("cut(3, 1, -1, " + what + ")", -2, 0);
        }
        Clause.promise(8, "FAULTS CAST, NULL, INDEX");
        Refused.onLand("cut(1, 0, -1, 0)", -12, 2);
        Refused.onLand("cut(1, 2, 0, 0)", -12, 2);
        Refused.onLand("cut(3, 0, -1, 0)", -11, 1);
        Refused.onLand("cut(3, 2, 0, 0)", -11, 1);
        String[] places = {"-1", "5", "8", "9", "MIN", "MAX"};
        for (String i : places) {
            Refused.onLand("cut(1, 1, " + i + ", 0)", -13, 3);
        }
        VillageCuts two = Checks.withLand("v;pi1;pi2");
        Checks.row(two, 0, 1, 9, 1, 1);
        Clause.due("just as many as villages", two.cut(0, 1, 1, 0), 1);
        Clause.due("one too few", two.cut(0, 1, 2, 0), -13);
        Clause.promise(8, "OUTSIDE: a cell is not 0 .. as many THINGS as there are.");
        Refused.onLand("cut(1, 1, 4, 0)", -2, 0);
        VillageCuts x = Checks.withLand("v;pi1;pi1i2i3i4i5");
        int[][] outside = {{-1, 0}, {2, 0}, {0, -1}, {0, 6}, {Integer.MIN_VALUE, 0}, {0, Integer.MAX_VALUE}};
        for (int[] cells : outside) {
            for (int what = 0; what < 4; what++) {
                cutIs(x, what, -2, cells);
            }
            cutIs(x, 13, -2, cells);
            Clause.due(x, "fault()", 0);
        }
        cutIs(x, 0, 1, 1, 5);
        Clause.due("index is told ahead of a cell", x.cut(2, 2, 1, 0), -13);
        cutIs(x, 0, 1, 0, 0);
    }

    private static void now() {
        VillageCuts x = Checks.withLand("v;bi9s0;dg0i9");
        int[] run = {0, 0, 1, 1};
        int[] sums = {1, 10, 10, 10, 28};
        int[] letters = {0, 0, 1, 0, 0};
        int[] next = {1, 1, 2, 2, 0};
        for (int k = 0; k < 5; k++) {
            Clause.promise(9, "NOW as a CUT: its SUM (what 0)");
            Clause.due(x, "now(0)", sums[k]);
            Clause.promise(9, "LETTERS that are UNDER WAY, as a set (1)");
            Clause.due(x, "now(1)", letters[k]);
            Clause.promise(9, "VILLAGES of which the next THING can HAPPEN, as a set (2)");
            Clause.due(x, "now(2)", next[k]);
            x.happen(k < 4 ? run[k] : 0);
        }
        Clause.due(Checks.withLand("v;pi1;pi1;pi1;pi1"), "now(2)", 15);
        Clause.promise(9, "OUTSIDE");
        String[] outside = {"-1", "3", "MIN", "MAX"};
        for (String what : outside) {
            Refused.onLand("now(" + what + ")", -2, KEPT);
            Refused.withoutLand("now(" + what + ")", -2, KEPT);
        }
        Clause.promise(9, "STATE: there is no LAND.");
        for (int what = 0; what < 3; what++) {
            Refused.withoutLand("now(" + what + ")", -3, KEPT);
        }
    }

    private static void tale() {
        Clause.promise(10, "A TALE of n VILLAGES, that are cells of a SHEET from i on");
        VillageCuts x = Checks.withLand("v;bi9i0;di9i1");
        for (int lane = 0; lane < 3; lane++) {
            Checks.row(x, lane, lane, 9, 0, 1, 9);
            Clause.due("lane " + lane, x.tale(lane, lane, 1, 2, 1), -9);
            Clause.due("none at the end", x.tale(lane, lane, 4, 0, 0), 1);
            Clause.due("one more", x.tale(lane, lane, 1, 3, 1), -1);
        }
        Clause.promise(10, "the SUM then (what 0)");
        taleIs(x, 0, 1);
        taleIs(x, 0, 10, 0);
        taleIs(x, 0, 3, 0, 1, 1, 0);
        Clause.promise(10, "its FIRST WRONG (1; NONE)");
        taleIs(x, 1, -9);
        taleIs(x, 1, -9, 0, 1, 1, 0);
        taleIs(x, 1, 2, 0, 0, 0, 1);
        taleIs(Checks.withLand("v;pg0;ps0"), 1, 0, 0, 1);
        Clause.promise(10, "LETTERS that are UNDER WAY then, as a set (2)");
        VillageCuts letters = Checks.withLand("v;ps0s7;pg7g0");
        taleIs(letters, 2, 0);
        taleIs(letters, 2, 129, 0, 0);
        taleIs(letters, 2, 1, 0, 0, 1);
        taleIs(letters, 2, 0, 0, 0, 1, 1);
        Clause.promise(10, "the greatest SUM in it, NOW and behind each act (3)");
        taleIs(x, 3, 1);
        taleIs(x, 3, 28, 0, 1, 0, 1);
        taleIs(x, 3, 19, 1, 1);
        x.happen(0);
        taleIs(x, 3, 10, 0);
        taleIs(x, 3, 10);
        Clause.promise(10, "how many THINGS of VILLAGE v have HAPPENED then (10 and v");
        taleIs(x, 10, 1);
        taleIs(x, 11, 0);
        taleIs(x, 10, 2, 1, 0, 1);
        taleIs(x, 11, 2, 1, 0, 1);
        Clause.promise(10, "NONE: there is no such VILLAGE)");
        taleIs(x, 12, -9);
        taleIs(x, 13, -9, 1);
        taleIs(Checks.withLand(THREE), 12, 0);
        taleIs(Checks.withLand(THREE), 13, -9);
        taleIs(Checks.withLand("v;pi1;pi1;pi1;pi1"), 13, 1, 3);
    }

    private static void taleOfOneWrong() {
        Clause.promise(10, "of one with a FIRST WRONG: -100 less that (but what 1).");
        int[] whats = {0, 2, 3, 10, 11, 12, 13};
        VillageCuts x = Checks.withLand("v;pg0;pi1s0");
        for (int what : whats) {
            taleIs(x, what, -100, 0);
            taleIs(x, what, -101, 1, 0);
            taleIs(x, what, -103, 1, 1, 0, 0);
        }
        taleIs(x, 1, 0, 0);
        taleIs(x, 1, 1, 1, 0);
        VillageCuts most = Checks.withLand("v;pi1i1i1i1i1;pi1i1i1i1i1;pi1i1i1i1i1;pi1i1i1i1i1");
        Checks.row(most, 0, 0, 0, 0, 0, 0, 0, 1, 1, 1, 1, 1, 2, 2, 2, 2, 2, 3, 3, 3, 3, 2);
        Clause.due("the twentieth act", most.tale(0, 0, 0, 20, 0), -119);
        Clause.due("the twentieth act", most.tale(0, 0, 0, 20, 1), 19);
        Clause.due("without it", most.tale(0, 0, 0, 19, 0), 4);
        Clause.due("nothing has happened", most.many(2), 0);
        Clause.due("no fault of the machine", most.fault(), 0);
    }

    private static void taleRefusals() {
        Clause.promise(10, "UNKNOWN: SHEET");
        for (String k : NO_SHEETS) {
            Refused.onLand("tale(" + k + ", 3, -1, 21, 4)", -1, 0);
            Refused.withoutLand("tale(" + k + ", 3, -1, 21, 4)", -1, 0);
        }
        Clause.promise(10, "OUTSIDE: lane, n (0 .. 20), what (0 .. 3, 10 .. 13)");
        for (String lane : NO_LANES) {
            Refused.onLand("tale(1, " + lane + ", 0, 0, 0)", -2, 0);
            Refused.withoutLand("tale(3, " + lane + ", -1, 0, 0)", -2, 0);
        }
        String[] noLengths = {"-1", "21", "MIN", "MAX"};
        for (String n : noLengths) {
            Refused.onLand("tale(1, 1, 0, " + n + ", 0)", -2, 0);
            Refused.withoutLand("tale(3, 1, -1, " + n + ", 0)", -2, 0);
        }
        for (String what : NO_QUESTIONS) {
            Refused.onLand("tale(1, 1, 0, 0, " + what + ")", -2, 0);
            Refused.withoutLand("tale(3, 1, -1, 0, " + what + ")", -2, 0);
        }
        VillageCuts most = Checks.withLand("v;pi1i1i1i1i1;pi1i1i1i1i1;pi1i1i1i1i1;pi1i1i1i1i1");
        taleIs(most, 0, 4, 0, 0, 0, 0, 0, 1, 1, 1, 1, 1, 2, 2, 2, 2, 2, 3, 3, 3, 3, 3);
        Clause.promise(10, "FAULTS CAST, NULL, INDEX");
        Refused.onLand("tale(1, 0, -1, 0, 0)", -12, 2);
        Refused.withoutLand("tale(1, 2, 0, 1, 0)", -12, 2);
        Refused.onLand("tale(3, 0, -1, 0, 0)", -11, 1);
        Refused.withoutLand("tale(3, 0, 0, 0, 0)", -11, 1);
        String[] beyond = {"-1, 0", "9, 0", "0, 9", "8, 1", "7, 2", "-1, 1", "MIN, 20", "MAX, 20", "MAX, 0"};
        for (String cells : beyond) {
            Refused.onLand("tale(1, 1, " + cells + ", 0)", -13, 3);
            Refused.withoutLand("tale(1, 1, " + cells + ", 0)", -13, 3);
        }
        Clause.promise(10, "STATE: there is no LAND");
        Refused.withoutLand("tale(1, 1, 0, 8, 0)", -3, 0);
        Refused.withoutLand("tale(1, 1, 8, 0, 0)", -3, 0);
        Refused.withoutLand("tale(2, 2, 4, 1, 0)", -3, 0);
        Clause.promise(10, "UNKNOWN: a cell is no VILLAGE.");
        Refused.onLand("tale(2, 2, 0, 5, 0)", -1, 0);
        VillageCuts x = Checks.withLand(THREE);
        int[][] none = {{3}, {-1}, {0, 3}, {0, 0, 3}, {2, 2, 2, -1}, {Integer.MIN_VALUE}, {Integer.MAX_VALUE}};
        for (int[] cells : none) {
            taleIs(x, 0, -1, cells);
            taleIs(x, 1, -1, cells);
            taleIs(x, 13, -1, cells);
        }
        taleIs(x, 1, -9, 2);
        Checks.row(x, 0, 0, 2, 3);
        Clause.due("a cell that is not taken", x.tale(0, 0, 0, 1, 1), -9);
    }
}
