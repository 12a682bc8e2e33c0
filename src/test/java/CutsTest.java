/** Promises 6 to 10: happen, anew, cut, now, tale. */
public final class CutsTest {
    private static final String THREE = "v;ps0g1i5;bg0s1;ds7i9";

    public static void main(String[] args) {
        happen();
        anew();
        cut();
        cutRefusals();
        now();
        tale();
        taleRefusals();
        Checks.end();
    }

    private static void happen() {
        VillageCuts x = Checks.withLand(THREE);
        Checks.due("not sent yet", x.happen(1), -3);
        Checks.due("nothing happened", x.many(2), 0);
        Checks.due("0 0", x.happen(0), 0);
        Checks.due("not sent yet", x.happen(0), -3);
        Checks.due("1 0", x.happen(1), 0);
        Checks.due("still not", x.happen(0), -3);
        Checks.due("1 1", x.happen(1), 1);
        Checks.due("none left", x.happen(1), -3);
        Checks.due("0 1", x.happen(0), 1);
        Checks.due("0 2", x.happen(0), 2);
        Checks.due("none left", x.happen(0), -3);
        Checks.due("2 0", x.happen(2), 0);
        Checks.due("2 1", x.happen(2), 1);
        Checks.due("all", x.many(2), 7);
        Checks.due("unknown", x.happen(-1), -1);
        Checks.due("unknown", x.happen(3), -1);
        Checks.due("no land", new VillageCuts().happen(0), -1);
    }

    private static void anew() {
        VillageCuts x = Checks.withLand(THREE);
        Checks.due("none had", x.anew(), 0);
        x.happen(0);
        x.happen(2);
        x.happen(2);
        Checks.reading(x, 3, 0, 0, 0);
        Checks.due("three had", x.anew(), 3);
        Checks.due("none has", x.many(2), 0);
        Checks.due("none has in 2", x.ofVillage(2, 2), 0);
        Checks.due("readings stay", x.many(4), 1);
        Checks.due("again", x.happen(2), 0);
        Checks.due("no land", new VillageCuts().anew(), -3);
    }

    private static void cutIs(VillageCuts x, int[] cells, int... due) {
        int[] whats = {0, 1, 2, 3, 10, 11, 12, 13};
        Checks.row(x, 2, 1, cells);
        for (int w = 0; w < whats.length; w++) {
            Checks.due("cut " + java.util.Arrays.toString(cells) + " " + whats[w], x.cut(2, 1, 0, whats[w]), due[w]);
        }
    }

    private static void cut() {
        VillageCuts x = Checks.withLand(THREE);
        cutIs(x, new int[] {0, 0, 0}, 1, 1, 0, 0, 0, 0, 0, -9);
        cutIs(x, new int[] {1, 0, 0}, 1, 1, 1, 1, 1, 0, 0, -9);
        cutIs(x, new int[] {1, 1, 1}, 1, 1, 128, 3, 1, 1, 1, -9);
        cutIs(x, new int[] {0, 1, 0}, 0, 1, 0, 2, 1, 1, 0, -9);
        cutIs(x, new int[] {0, 2, 2}, 0, 19, 130, 5, 1, 2, 2, -9);
        cutIs(x, new int[] {2, 0, 0}, 0, 1, 1, 4, 2, 2, 0, -9);
        cutIs(x, new int[] {3, 1, 0}, 0, 6, 0, 5, 3, 2, 0, -9);
        cutIs(x, new int[] {3, 2, 2}, 1, 24, 128, 7, 3, 2, 2, -9);
        Checks.due("now is as it was", x.many(2), 0);
        VillageCuts four = Checks.withLand("v;ps0;pg0s1;pg1s2;pg2");
        cutIs(four, new int[] {0, 0, 0, 1}, 0, 0, 0, 6, 1, 2, 2, 1);
        cutIs(four, new int[] {1, 0, 1, 0}, 0, 0, 1, 4, 1, 2, 1, 0);
        Checks.due("closed at once", Checks.cut(Checks.withLand("v;ps0;pg0s1;pg1s2;pg2"), 10, 0, 0, 0, 1), 1);
        // what was told of four villages does not stay behind with two
        cutIs(four, new int[] {1, 2, 2, 1}, 1, 0, 0, 6, 1, 2, 2, 1);
        Checks.due("two villages", Checks.landBy(four, "v;pi4;bi4"), 2);
        cutIs(four, new int[] {0, 0}, 1, 1, 0, 0, 0, 0, -9, -9);
        cutIs(four, new int[] {1, 0}, 1, 5, 0, 1, 1, 0, -9, -9);
        VillageCuts offset = Checks.withLand("v;pi1;pi2i3");
        Checks.row(offset, 0, 0, 9, 9, 1, 2, 9);
        Checks.due("from 2 on", offset.cut(0, 0, 2, 1), 4);
        Checks.due("a cell is too much", offset.cut(0, 0, 1, 1), -2);
    }

    private static void cutRefusals() {
        VillageCuts none = new VillageCuts();
        Checks.due("no land, ahead of all", none.cut(-1, -1, -1, -1), -3);
        VillageCuts x = Checks.withLand(THREE);
        Checks.row(x, 0, 1, 3, 2, 2);
        Checks.due("sheet -1", x.cut(-1, 9, 0, 0), -1);
        Checks.due("sheet 4", x.cut(4, 9, 0, 0), -1);
        Checks.due("lane -1", x.cut(0, -1, 0, 0), -2);
        Checks.due("lane 3", x.cut(0, 3, 0, 0), -2);
        int[] outside = {-1, 4, 9, 14, Integer.MAX_VALUE, Integer.MIN_VALUE};
        for (int what : outside) {
            Checks.due("what " + what, x.cut(1, 0, -1, what), -2);
            Checks.due("no fault", x.fault(), 0);
        }
        Checks.due("cast", x.cut(0, 0, -1, 0), -12);
        Checks.due("fault", x.fault(), 2);
        Checks.due("null", x.cut(1, 0, -1, 0), -11);
        Checks.due("fault", x.fault(), 1);
        Checks.due("index -1", x.cut(0, 1, -1, 0), -13);
        Checks.due("fault", x.fault(), 3);
        Checks.due("index 1", x.cut(0, 1, 1, 0), -13);
        Checks.due("index far", x.cut(0, 1, Integer.MAX_VALUE, 0), -13);
        Checks.due("fine", x.cut(0, 1, 0, 0), 1);
        Checks.due("no fault", x.fault(), 0);
        int[][] tooMuch = {{4, 0, 0}, {0, 3, 0}, {0, 0, 3}, {-1, 0, 0}, {0, 0, -1}};
        for (int[] cells : tooMuch) {
            x.cut(1, 0, 0, 0);
            Checks.due("cell", Checks.cut(x, 0, cells), -2);
            Checks.due("cell ahead of no village", Checks.cut(x, 13, cells), -2);
            Checks.due("no fault", x.fault(), 0);
        }
    }

    private static void nowIs(VillageCuts x, int... due) {
        for (int what = 0; what < 3; what++) {
            Checks.due("now " + what, x.now(what), due[what]);
        }
    }

    private static void now() {
        VillageCuts x = Checks.withLand(THREE);
        nowIs(x, 1, 0, 5);
        x.happen(0);
        nowIs(x, 1, 1, 6);
        x.happen(2);
        nowIs(x, 1, 129, 6);
        x.happen(1);
        x.happen(1);
        nowIs(x, 1, 130, 5);
        x.happen(0);
        x.happen(0);
        x.happen(2);
        nowIs(x, 24, 128, 0);
        Checks.due("what -1", x.now(-1), -2);
        Checks.due("what 3", x.now(3), -2);
        VillageCuts none = new VillageCuts();
        Checks.due("outside ahead of state", none.now(3), -2);
        Checks.due("no land", none.now(1), -3);
    }

    private static void taleIs(VillageCuts x, int[] cells, int... due) {
        int[] whats = {0, 1, 2, 3, 10, 11, 12, 13};
        Checks.row(x, 2, 0, cells);
        for (int w = 0; w < whats.length; w++) {
            Checks.due("tale " + java.util.Arrays.toString(cells) + " " + whats[w],
                x.tale(2, 0, 0, cells.length, whats[w]), due[w]);
        }
    }

    private static void tale() {
        VillageCuts x = Checks.withLand(THREE);
        taleIs(x, new int[] {}, 1, -9, 0, 1, 0, 0, 0, -9);
        taleIs(x, new int[] {0, 1, 2}, 1, -9, 128, 1, 1, 1, 1, -9);
        taleIs(x, new int[] {0, 1, 1, 0, 0, 2, 2}, 24, -9, 128, 24, 3, 2, 2, -9);
        taleIs(x, new int[] {0, 0, 1}, -101, 1, -101, -101, -101, -101, -101, -101);
        taleIs(x, new int[] {2, 2, 2}, -102, 2, -102, -102, -102, -102, -102, -102);
        Checks.due("nothing happened", x.many(2), 0);
        x.happen(0);
        x.happen(1);
        taleIs(x, new int[] {0}, -100, 0, -100, -100, -100, -100, -100, -100);
        taleIs(x, new int[] {1, 0, 0}, 6, -9, 0, 6, 3, 2, 0, -9);
        Checks.due("from now on, nothing changed", x.many(2), 2);
        VillageCuts down = Checks.withLand("v;pi9i1;di4i0");
        taleIs(down, new int[] {0, 1, 0, 1}, 1, -9, 0, 17, 2, 2, -9, -9);
        down.happen(0);
        taleIs(down, new int[] {0}, 1, -9, 0, 9, 2, 0, -9, -9);
        Checks.row(down, 2, 2, 7, 0, 1, 7);
        Checks.due("from 1 on", down.tale(2, 2, 1, 2, 0), 9);
        Checks.due("none of a row", down.tale(2, 2, 4, 0, 0), 9);
        StringBuilder all = new StringBuilder("v");
        int[] acts = new int[20];
        for (int v = 0; v < 4; v++) {
            all.append(";pi1i1i1i1i1");
            java.util.Arrays.fill(acts, 5 * v, 5 * v + 5, v);
        }
        VillageCuts most = Checks.withLand(all.toString());
        taleIs(most, acts, 4, -9, 0, 4, 5, 5, 5, 5);
    }

    private static void taleRefusals() {
        VillageCuts none = new VillageCuts();
        Checks.row(none, 0, 2, 0, 0, 0);
        Checks.due("no land", none.tale(0, 2, 0, 3, 0), -3);
        Checks.due("index ahead of state", none.tale(0, 2, 0, 4, 0), -13);
        Checks.due("null ahead of state", none.tale(1, 2, 0, 0, 0), -11);
        VillageCuts x = Checks.withLand(THREE);
        Checks.row(x, 0, 1, 0, 1, 1);
        Checks.due("sheet", x.tale(-1, 9, 0, 0, 0), -1);
        Checks.due("sheet", x.tale(4, 9, 0, 0, 0), -1);
        Checks.due("lane", x.tale(0, -1, 0, 0, 0), -2);
        Checks.due("lane", x.tale(0, 3, 0, 0, 0), -2);
        Checks.due("n", x.tale(0, 1, 0, -1, 0), -2);
        Checks.due("n", x.tale(0, 1, 0, 21, 0), -2);
        int[] outside = {-1, 4, 9, 14};
        for (int what : outside) {
            Checks.due("what " + what, x.tale(1, 1, 0, 0, what), -2);
        }
        Checks.due("cast", x.tale(0, 2, -1, 0, 0), -12);
        Checks.due("fault", x.fault(), 2);
        Checks.due("null", x.tale(1, 2, -1, 0, 0), -11);
        Checks.due("fault", x.fault(), 1);
        Checks.due("index of none", x.tale(0, 1, -1, 0, 0), -13);
        Checks.due("fault", x.fault(), 3);
        Checks.due("index of none", x.tale(0, 1, 4, 0, 0), -13);
        Checks.due("index", x.tale(0, 1, 0, 4, 0), -13);
        Checks.due("index", x.tale(0, 1, 3, 1, 0), -13);
        Checks.due("fine", x.tale(0, 1, 0, 3, 1), -9);
        Checks.due("fault", x.fault(), 0);
        Checks.due("no village", Checks.tale(x, 0, 0, 3), -1);
        Checks.due("no village", Checks.tale(x, 1, 0, -1), -1);
        Checks.due("no village at first", Checks.tale(x, 1, 3), -1);
        Checks.due("no village at first", Checks.tale(x, 0, -1, 0), -1);
        Checks.due("no village behind a first wrong", Checks.tale(x, 1, 0, 0, 3), -1);
        Checks.due("no village there", Checks.tale(x, 1, 0, Integer.MIN_VALUE), -1);
    }
}
