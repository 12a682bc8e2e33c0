/** Promises 16 to 18: reading, back, kinds. */
public final class ReadingsTest {
    private static final String TWO = "v;pi3i0s0;bg0i2";

    public static void main(String[] args) {
        readings();
        refusals();
        back();
        kinds();
        Checks.end();
    }

    private static void readings() {
        VillageCuts x = Checks.withLand(TWO);
        for (int number = 0; number < 8; number++) {
            Checks.due("number", Checks.reading(x, number, 0, 0), number);
            Checks.due("many", x.many(4), number + 1);
        }
        Checks.due("full", Checks.reading(x, 1, 0, 0), -4);
        Checks.due("fault", x.fault(), 0);
        Checks.due("a cell is outside ahead of full", Checks.reading(x, 1, 4, 0), -2);
        Checks.due("many", x.many(4), 8);
        Checks.due("back", x.back(1), 7);
        Checks.due("not full", Checks.reading(x, 1, 0, 0), 7);
        VillageCuts other = Checks.withLand(TWO);
        Checks.due("a cut that can't be", Checks.reading(other, 3, 0, 2), 0);
    }

    private static void refusals() {
        VillageCuts none = new VillageCuts();
        Checks.due("no land, ahead of all", none.reading(-1, -1, -1, -1), -3);
        VillageCuts x = Checks.withLand(TWO);
        Checks.row(x, 0, 1, 3, 2);
        Checks.due("sheet", x.reading(-1, 9, 0, 0), -1);
        Checks.due("sheet", x.reading(4, 9, 0, 0), -1);
        Checks.due("lane", x.reading(0, -1, 0, 0), -2);
        Checks.due("lane", x.reading(0, 3, 0, 0), -2);
        Checks.due("sum", x.reading(1, 1, 0, -1), -2);
        Checks.due("sum", x.reading(1, 1, 0, 100), -2);
        Checks.due("cast", x.reading(0, 2, -1, 0), -12);
        Checks.due("fault", x.fault(), 2);
        Checks.due("null", x.reading(1, 2, -1, 0), -11);
        Checks.due("fault", x.fault(), 1);
        Checks.due("index", x.reading(0, 1, -1, 0), -13);
        Checks.due("fault", x.fault(), 3);
        Checks.due("index", x.reading(0, 1, 1, 0), -13);
        int[][] tooMuch = {{4, 0}, {0, 3}, {-1, 0}, {0, -1}};
        for (int[] cells : tooMuch) {
            Checks.due("cell", Checks.reading(x, 0, cells), -2);
        }
        Checks.due("none", x.many(4), 0);
        Checks.due("most of all", x.reading(0, 1, 0, 99), 0);
        Checks.due("fault", x.fault(), 0);
    }

    private static void back() {
        VillageCuts none = new VillageCuts();
        Checks.due("none", none.back(0), 0);
        Checks.due("one of none", none.back(1), -2);
        VillageCuts x = Checks.withLand(TWO);
        for (int k = 0; k < 5; k++) {
            Checks.reading(x, 1, 0, 0);
        }
        Checks.due("-1", x.back(-1), -2);
        Checks.due("6", x.back(6), -2);
        Checks.due("0", x.back(0), 5);
        Checks.due("2", x.back(2), 3);
        Checks.due("many", x.many(4), 3);
        Checks.due("4", x.back(4), -2);
        Checks.due("3", x.back(3), 0);
        Checks.due("next", Checks.reading(x, 1, 0, 0), 0);
    }

    private static void kindsAre(VillageCuts x, int... due) {
        for (int v = 0; v < due.length; v++) {
            Checks.due("kinds " + v, x.kinds(v), due[v]);
        }
        Checks.due("no more", x.kinds(due.length), -1);
        Checks.due("none below", x.kinds(-1), -1);
    }

    private static void kinds() {
        Checks.due("no land", new VillageCuts().kinds(0), -1);
        VillageCuts x = Checks.withLand(TWO);
        kindsAre(x, 7, 7);
        Checks.reading(x, 4, 1, 0);
        kindsAre(x, 1, 2);
        x.back(1);
        Checks.reading(x, 3, 0, 2);
        // 0 and 0 are alike for plain and double; 2 and 1 for broad
        kindsAre(x, 5, 2);
        x.back(1);
        Checks.reading(x, 5, 1, 0);
        kindsAre(x, 2, 0);
        x.back(1);
        Checks.reading(x, 7, 1, 2);
        kindsAre(x, 2, 4);
        Checks.reading(x, 6, 1, 2);
        kindsAre(x, 0, 0);
        x.back(1);
        kindsAre(x, 2, 4);
        x.back(1);
        Checks.reading(x, 2, 2, 2);
        kindsAre(x, 0, 1);
        x.happen(0);
        kindsAre(x, 0, 1);
        Checks.due("kinds change nothing", x.ofVillage(1, 0), 1);
        // of value 1 broad and double are alike
        VillageCuts one = Checks.withLand("v;di1;pi0");
        Checks.reading(one, 2, 1, 0);
        kindsAre(one, 6, 5);
    }
}
