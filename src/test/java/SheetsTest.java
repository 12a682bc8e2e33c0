/** Promises 20 to 30: sheet, lose, put, cell, copy, tell, ring, as, trace, fault, many. */
public final class SheetsTest {
    public static void main(String[] args) {
        sheet();
        lose();
        put();
        cell();
        copy();
        copyRefusals();
        tellAndRing();
        as();
        fault();
        many();
        Checks.end();
    }

    private static void sheet() {
        VillageCuts x = new VillageCuts();
        Checks.due("sheet -1", x.sheet(-1, 9, 99), -1);
        Checks.due("sheet 4", x.sheet(4, 0, -1), -1);
        Checks.due("lane -1", x.sheet(0, -1, -1), -2);
        Checks.due("lane 3", x.sheet(0, 3, -1), -2);
        Checks.due("61", x.sheet(0, 0, 61), -2);
        Checks.due("no fault", x.fault(), 0);
        Checks.due("-1", x.sheet(0, 0, -1), -14);
        Checks.due("fault", x.fault(), 4);
        Checks.due("none was made", x.lose(0), 0);
        for (int k = 0; k < 4; k++) {
            Checks.due("60", x.sheet(k, k % 3, 60), 1);
            Checks.due("no fault", x.fault(), 0);
            Checks.due("last cell", x.cell(k, 59, k % 3), 0);
            Checks.due("none behind", x.cell(k, 60, k % 3), Long.MIN_VALUE);
        }
        Checks.due("0", x.sheet(0, 1, 0), 1);
        Checks.due("no cell", x.put(0, 0, 1), -13);
        x.put(1, 5, 77);
        Checks.due("refused", x.sheet(1, 1, -1), -14);
        Checks.due("refused", x.sheet(1, 1, 61), -2);
        Checks.due("as it was", x.cell(1, 5, 1), 77);
        Checks.due("new row", x.sheet(1, 1, 60), 1);
        Checks.due("0 again", x.cell(1, 5, 1), 0);
        x.put(1, 5, 77);
        x.sheet(1, 2, 3);
        x.sheet(1, 2, 9);
        Checks.due("0 behind a shorter one", x.cell(1, 5, 2), 0);
    }

    private static void lose() {
        VillageCuts x = new VillageCuts();
        Checks.due("nothing", x.lose(0), 0);
        x.sheet(0, 0, 0);
        x.sheet(1, 0, 3);
        x.put(1, 0, 9);
        Checks.due("empty row", x.lose(0), 1);
        Checks.due("lost", x.lose(0), 0);
        Checks.due("put", x.put(0, 0, 0), -11);
        Checks.due("lose names no fault", x.lose(0), 0);
        Checks.due("so it stays", x.fault(), 1);
        Checks.due("lose", x.lose(1), 1);
        x.sheet(1, 0, 3);
        Checks.due("0 again", x.cell(1, 0, 0), 0);
        Checks.due("-1", x.lose(-1), -1);
        Checks.due("4", x.lose(4), -1);
    }

    private static void put() {
        VillageCuts x = new VillageCuts();
        int[] values = {0, 1, -1, 127, 128, -128, -129, 255, 256, 32767, 32768, -32768, -32769, 65535, 65536, 70000,
            Integer.MAX_VALUE, Integer.MIN_VALUE};
        for (int lane = 0; lane < 3; lane++) {
            x.sheet(lane, lane, 3);
        }
        for (int value : values) {
            for (int lane = 0; lane < 3; lane++) {
                Checks.due("put " + value, x.put(lane, 1, value), 1);
            }
            Checks.due("byte " + value, x.cell(0, 1, 0), (byte) value);
            Checks.due("short " + value, x.cell(1, 1, 1), (short) value);
            Checks.due("int " + value, x.cell(2, 1, 2), value);
        }
        Checks.due("neighbour", x.cell(2, 0, 2), 0);
        Checks.due("neighbour", x.cell(2, 2, 2), 0);
        Checks.due("sheet", x.put(-1, 0, 0), -1);
        Checks.due("sheet", x.put(4, 0, 0), -1);
        Checks.due("no fault", x.fault(), 0);
        Checks.due("null", x.put(3, -1, 0), -11);
        Checks.due("fault", x.fault(), 1);
        int[] beyond = {-1, 3, Integer.MIN_VALUE, Integer.MAX_VALUE};
        for (int i : beyond) {
            Checks.due("index", x.put(0, i, 0), -13);
            Checks.due("fault", x.fault(), 3);
        }
        Checks.due("fine", x.put(0, 2, 0), 1);
        Checks.due("no fault", x.fault(), 0);
    }

    private static void lost(VillageCuts x, int k, int i, int lane, int fault) {
        Checks.due("cell " + k + " " + i + " " + lane, x.cell(k, i, lane), Long.MIN_VALUE);
        Checks.due("fault of cell " + k + " " + i + " " + lane, x.fault(), fault);
    }

    private static void cell() {
        VillageCuts x = new VillageCuts();
        Checks.row(x, 1, 1, 5, 6, 7);
        Checks.due("6", x.cell(1, 1, 1), 6);
        lost(x, 1, -1, 0, 2);
        lost(x, 1, 0, 2, 2);
        lost(x, -1, 0, 1, 0);
        lost(x, 1, -1, 1, 3);
        lost(x, 1, 3, 1, 3);
        lost(x, 4, 0, 1, 0);
        lost(x, 0, -1, 1, 1);
        lost(x, 1, 0, 3, 0);
        lost(x, 0, 0, 0, 1);
        lost(x, 1, 0, -1, 0);
        Checks.due("7", x.cell(1, 2, 1), 7);
    }

    private static void rowIs(VillageCuts x, int k, int lane, int... cells) {
        for (int i = 0; i < cells.length; i++) {
            Checks.due("cell " + i, x.cell(k, i, lane), cells[i]);
        }
    }

    private static void copy() {
        VillageCuts x = new VillageCuts();
        Checks.row(x, 0, 1, 1, 2, 3, 4, 5);
        Checks.row(x, 1, 1, 9, 9, 9);
        Checks.due("2", x.copy(0, 3, 1, 0, 2), 2);
        rowIs(x, 1, 1, 4, 5, 9);
        rowIs(x, 0, 1, 1, 2, 3, 4, 5);
        Checks.due("forth", x.copy(0, 0, 0, 1, 4), 4);
        rowIs(x, 0, 1, 1, 1, 2, 3, 4);
        Checks.due("back", x.copy(0, 2, 0, 0, 3), 3);
        rowIs(x, 0, 1, 2, 3, 4, 3, 4);
        Checks.due("onto itself", x.copy(0, 0, 0, 0, 5), 5);
        rowIs(x, 0, 1, 2, 3, 4, 3, 4);
        Checks.due("none", x.copy(0, 5, 1, 3, 0), 0);
        Checks.due("no fault", x.fault(), 0);
        rowIs(x, 1, 1, 4, 5, 9);
    }

    private static void copyRefusals() {
        VillageCuts x = new VillageCuts();
        Checks.row(x, 0, 1, 1, 2, 3, 4, 5);
        Checks.row(x, 1, 1, 9, 9, 9);
        Checks.row(x, 2, 2, 9, 9, 9);
        Checks.due("sheet", x.copy(-1, 0, 3, 0, 0), -1);
        Checks.due("other", x.copy(3, 0, 4, 0, 0), -1);
        Checks.due("no fault", x.fault(), 0);
        Checks.due("null first", x.copy(3, -1, 0, 0, 0), -11);
        Checks.due("null other", x.copy(0, -1, 3, 0, 0), -11);
        Checks.due("fault", x.fault(), 1);
        Checks.due("cast", x.copy(0, -1, 2, 0, 0), -12);
        Checks.due("fault", x.fault(), 2);
        Checks.due("fine", x.copy(0, 0, 0, 0, 1), 1);
        Checks.due("no fault", x.fault(), 0);
        x.copy(0, -1, 2, 0, 0);
        Checks.due("other", x.copy(0, 0, -1, 0, 0), -1);
        Checks.due("no fault", x.fault(), 0);
        int[][] beyond = {{-1, 0, 0}, {6, 0, 0}, {0, -1, 0}, {0, 4, 0}, {0, 0, -1}, {0, 0, 4}, {3, 0, 3}, {0, 1, 3},
            {5, 0, 1}, {0, 3, 1}, {1, 0, Integer.MAX_VALUE}, {Integer.MAX_VALUE, 0, Integer.MAX_VALUE},
            {0, 0, Integer.MIN_VALUE}};
        for (int[] a : beyond) {
            Checks.due("index " + java.util.Arrays.toString(a), x.copy(0, a[0], 1, a[1], a[2]), -13);
            Checks.due("fault", x.fault(), 3);
            rowIs(x, 1, 1, 9, 9, 9);
        }
    }

    private static int traced(int trace, int... bodies) {
        int now = trace;
        for (int body : bodies) {
            now = 31 * now + body;
        }
        return now;
    }

    private static void tellAndRing() {
        VillageCuts x = Checks.withLand("v;pi3i4;bi5i6;di7i8");
        Checks.due("new", x.trace(), 0);
        int trace = 0;
        int[][] told = {{0, 3, 4}, {100, 105, 106}, {100, 114, 116}};
        int[][] bodies = {{1}, {2, 1}, {3, 2, 1, 1}};
        for (int count = 0; count < 3; count++) {
            for (int v = 0; v < 3; v++) {
                Checks.due("tell " + v, x.tell(v), told[v][count]);
                trace = traced(trace, bodies[v]);
                Checks.due("trace of tell " + v, x.trace(), trace);
                Checks.due("ring " + v, x.ring(v), v == 2 ? 50 : count);
                trace = traced(trace, v == 2 ? 5 : 4);
                Checks.due("trace of ring " + v, x.trace(), trace);
                x.happen(v);
            }
        }
        int[] unknown = {-1, 3, 4};
        for (int v : unknown) {
            Checks.due("tell", x.tell(v), -1);
            Checks.due("ring", x.ring(v), -1);
        }
        Checks.due("as it was", x.trace(), trace);
        x.anew();
        Checks.due("anew leaves it", x.trace(), trace);
    }

    private static void as() {
        VillageCuts x = Checks.withLand("v;pi3;bi5;di7");
        for (int v = 0; v < 3; v++) {
            for (int kind = 0; kind < 3; kind++) {
                Checks.due("as " + v + " " + kind, x.as(v, kind), kind <= v ? 1 : -12);
                Checks.due("fault", x.fault(), kind <= v ? 0 : 2);
            }
            x.as(0, 2);
            Checks.due("kind -1", x.as(v, -1), -2);
            Checks.due("no fault", x.fault(), 0);
            Checks.due("kind 3", x.as(v, 3), -2);
        }
        x.as(0, 2);
        Checks.due("unknown ahead", x.as(3, 3), -1);
        Checks.due("no fault", x.fault(), 0);
        Checks.due("unknown", x.as(-1, 0), -1);
        Checks.due("as leaves no trace", x.trace(), 0);
        Checks.due("kind stays", x.ofVillage(2, 0), 2);
    }

    /** Calls that name no fault leave the latest one. */
    private static void fault() {
        VillageCuts x = Checks.withLand("v;pi3;bi5;di7");
        x.sheet(0, 0, -1);
        x.ofVillage(9, 0);
        x.thing(9, 0, 0);
        x.ahead(0, 0, 0, 0);
        x.happen(9);
        x.anew();
        x.now(0);
        x.cuts();
        x.runs();
        x.first(0);
        x.some(0);
        x.every(0);
        x.back(0);
        x.kinds(0);
        x.odds(0, 0);
        x.lose(0);
        x.tell(0);
        x.ring(0);
        x.trace();
        x.many(0);
        Checks.due("fault stays", x.fault(), 4);
        Checks.due("fault stays", x.fault(), 4);
    }

    private static void many() {
        VillageCuts x = Checks.withLand("v;ps0g1i5;bg0s1;ds7i9");
        x.happen(0);
        x.happen(2);
        Checks.reading(x, 1, 0, 0, 0);
        int[] due = {3, 7, 2, 3, 1};
        for (int what = 0; what < 5; what++) {
            Checks.due("many " + what, x.many(what), due[what]);
        }
        Checks.due("-1", x.many(-1), -2);
        Checks.due("5", x.many(5), -2);
        VillageCuts none = new VillageCuts();
        Checks.due("-1", none.many(-1), -2);
        Checks.due("5", none.many(5), -2);
    }
}
