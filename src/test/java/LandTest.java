/** Promises 1 to 5: a new object, land, ofVillage, thing, ahead. */
public final class LandTest {
    private static final String FOUR = "v;pi3s0g1;bg0i4s1;di2g2;ps2i9";
    private static final String MOST = "v;pi1i2i3i4i5;bi1i2i3i4i5;di1i2i3i4i5;pi1i2i3i4i5";

    public static void main(String[] args) {
        newObject();
        firstFaults();
        otherCodes();
        partOfSheet();
        amiss();
        circles();
        refusals();
        takenMakesAnew();
        refusedChangesNothing();
        ofVillage();
        thing();
        ahead();
        Checks.end();
    }

    private static void newObject() {
        VillageCuts x = new VillageCuts();
        for (int what = 0; what < 5; what++) {
            Checks.due("new: many " + what, x.many(what), 0);
        }
        for (int k = 0; k < 4; k++) {
            Checks.due("new: lose " + k, x.lose(k), 0);
        }
        Checks.due("new: fault", x.fault(), 0);
        Checks.due("new: trace", x.trace(), 0);
        Checks.due("new: no village", x.ofVillage(0, 0), -1);
    }

    private static void fault(String text, int place) {
        VillageCuts x = new VillageCuts();
        Checks.due("first fault of " + text, Checks.landBy(x, text), -100 - place);
        Checks.due("no fault of the machine: " + text, x.fault(), 0);
        Checks.due("no land by " + text, x.many(0), 0);
    }

    private static void firstFaults() {
        fault("", 0);
        fault("x", 0);
        fault(";", 0);
        fault("v", 1);
        fault("vp", 1);
        fault("v;", 2);
        fault("v;x", 2);
        fault("v;;", 2);
        fault("v;p", 3);
        fault("v;p;", 3);
        fault("v;p3", 3);
        fault("v;pi", 4);
        fault("v;pix", 4);
        fault("v;pi/", 4);
        fault("v;pi:", 4);
        fault("v;ps8", 4);
        fault("v;pg8", 4);
        fault("v;pg/", 4);
        fault("v;pi3", 5);
        fault("v;pi3x", 5);
        fault("v;pi33", 5);
        fault("v;pi3;", 6);
        fault("v;pi3;v", 6);
        fault("v;pi3;pi3v", 9);
        fault("v;pi3;pi3;", 10);
        fault("v;pi3;pi3;pi3;", 14);
        fault("v;pi1;pi2;pi3;pi4;", 17);
        fault("v;pi1;pi2;pi3;pi4;pi5", 17);
        fault("v;pi1i2i3i4i5i6;pi1", 13);
        fault("v;pi1;pi1i2i3i4i5s", 17);
        fault(MOST + "i", 49);
        fault(MOST + ";", 49);
    }

    private static void otherCodes() {
        VillageCuts x = new VillageCuts();
        String text = "v;pi1;pi1";
        Checks.write(x, 0, 2, text);
        int[] wrong = {118 + 256, 118 - 256, Integer.MIN_VALUE, Integer.MAX_VALUE, -1, 0};
        for (int code : wrong) {
            x.put(0, 0, code);
            Checks.due("first code " + code, x.land(0, 2, 0, 9), -100);
        }
        x.put(0, 0, 'v');
        for (int code : wrong) {
            x.put(0, 4, code);
            Checks.due("digit " + code, x.land(0, 2, 0, 9), -104);
        }
        x.put(0, 4, '0');
        Checks.due("digit 0", x.land(0, 2, 0, 9), 2);
        x.sheet(1, 0, 9);
        for (int i = 0; i < 9; i++) {
            x.put(1, i, text.charAt(i) + 256);
        }
        Checks.due("cut to bytes", x.land(1, 0, 0, 9), 2);
    }

    private static void partOfSheet() {
        VillageCuts x = new VillageCuts();
        Checks.write(x, 1, 1, "xx" + "v;pi1;bi2" + "yy");
        Checks.due("from 2 on", x.land(1, 1, 2, 9), 2);
        Checks.due("from 2 on, too long", x.land(1, 1, 2, 10), -109);
        Checks.due("from 1 on", x.land(1, 1, 1, 9), -100);
        Checks.due("too short", x.land(1, 1, 2, 8), -108);
        Checks.due("none, at the end", x.land(1, 1, 13, 0), -100);
    }

    private static void amiss(String text, int letter) {
        VillageCuts x = new VillageCuts();
        Checks.due("amiss: " + text, Checks.landBy(x, text), -200 - letter);
        Checks.due("no land by " + text, x.many(0), 0);
    }

    private static void amiss() {
        amiss("v;ps1s1;pi1", 1);
        amiss("v;ps2;ps2", 2);
        amiss("v;ps0g7;pg0g0", 0);
        amiss("v;pg7;pi0", 7);
        amiss("v;pi0;pg7", 7);
        amiss("v;pg7g3;pi0", 3);
        amiss("v;ps4g4;pi0", 4);
        amiss("v;pg4s4;pi0", 4);
        amiss("v;ps5;pg5;pg5", 5);
        // amiss is told ahead of a circle
        amiss("v;pg0s1s6s6;pg1s0", 6);
        // a fault of the text is told ahead of what is amiss
        fault("v;pg4s4;pi", 10);
        Checks.due("sent, not got", Checks.landBy(new VillageCuts(), "v;ps7;pi0"), 2);
        Checks.due("sent late, got early in the text", Checks.landBy(new VillageCuts(), "v;pg7;ps7"), 2);
    }

    private static void circles() {
        String[] circles = {"v;pg0s1;pg1s0", "v;pi1g0s1;pi1g1s0", "v;pg0s1;pg1s2;pg2s0", "v;pg0s1;pg1s2;pg2s3;pg3s0",
            "v;pi1;pg0s1;pg1s0", "v;ps4g0s1;pg4i1g1s0"};
        for (String text : circles) {
            VillageCuts x = Checks.withLand("v;pi1;pi1;pi1");
            Checks.due("circle " + text, Checks.landBy(x, text), -300);
            Checks.due("no land by " + text, x.many(0), 3);
        }
        Checks.due("no circle", Checks.landBy(new VillageCuts(), "v;ps0g1;pg0s1"), 2);
        Checks.due("crossing", Checks.landBy(new VillageCuts(), "v;ps0g1;ps1g0"), 2);
    }

    private static void refusals() {
        VillageCuts x = new VillageCuts();
        Checks.write(x, 0, 1, "v;pi1;pi1");
        Checks.due("sheet -1", x.land(-1, 9, 0, 9), -1);
        Checks.due("sheet 4", x.land(4, 0, 0, 9), -1);
        Checks.due("lane -1", x.land(0, -1, 0, 9), -2);
        Checks.due("lane 3", x.land(0, 3, 0, 9), -2);
        Checks.due("fault of lane 3", x.fault(), 0);
        Checks.due("cast", x.land(0, 0, -1, -1), -12);
        Checks.due("fault 2", x.fault(), 2);
        Checks.due("cast", x.land(0, 2, 0, 9), -12);
        Checks.due("null", x.land(1, 0, -1, -1), -11);
        Checks.due("fault 1", x.fault(), 1);
        Checks.due("size", x.land(0, 1, -1, -1), -14);
        Checks.due("fault 4", x.fault(), 4);
        Checks.due("size", x.land(0, 1, 0, Integer.MIN_VALUE), -14);
        Checks.due("index -1", x.land(0, 1, -1, 9), -13);
        Checks.due("fault 3", x.fault(), 3);
        Checks.due("index -1 of none", x.land(0, 1, -1, 0), -13);
        Checks.due("index 10 of none", x.land(0, 1, 10, 0), -13);
        Checks.due("index 9 of none", x.land(0, 1, 9, 0), -100);
        Checks.due("fault 0", x.fault(), 0);
        Checks.due("one too many", x.land(0, 1, 0, 10), -13);
        Checks.due("one too far", x.land(0, 1, 1, 9), -13);
        Checks.due("wrapping", x.land(0, 1, Integer.MAX_VALUE, Integer.MAX_VALUE), -13);
        Checks.due("wrapping", x.land(0, 1, 1, Integer.MAX_VALUE), -13);
        Checks.due("unknown takes the fault away", x.land(4, 1, 0, 9), -1);
        Checks.due("fault 0", x.fault(), 0);
        Checks.due("no land", x.many(0), 0);
        Checks.due("land", x.land(0, 1, 0, 9), 2);
        Checks.due("fault 0", x.fault(), 0);
    }

    private static void takenMakesAnew() {
        VillageCuts x = Checks.withLand(FOUR);
        x.happen(0);
        x.happen(0);
        x.tell(0);
        int trace = x.trace();
        Checks.due("reading", Checks.reading(x, 1, 0, 0, 0, 0), 0);
        Checks.due("cuts", x.cuts(), 56);
        Checks.due("the same again", x.land(3, 0, 0, FOUR.length()), 4);
        Checks.due("nothing has happened", x.many(2), 0);
        Checks.due("nothing has happened", x.ofVillage(0, 2), 0);
        Checks.due("no readings", x.many(4), 0);
        Checks.due("trace stays", x.trace(), trace);
        Checks.due("sheet 2 stays", x.cell(2, 3, 2), 0);
        Checks.due("another", Checks.landBy(x, "v;pi1;bi2"), 2);
        Checks.due("villages", x.many(0), 2);
        Checks.due("things", x.many(1), 2);
        Checks.due("letters", x.many(3), 0);
        Checks.due("cuts of the other", x.cuts(), 4);
        Checks.due("no third village", x.ofVillage(2, 0), -1);
    }

    private static void refusedChangesNothing() {
        VillageCuts x = Checks.withLand(FOUR);
        x.happen(0);
        Checks.reading(x, 1, 0, 0, 0, 0);
        String[] refused = {"v;pi1", "v;ps1s1;pi1", "v;pg0s1;pg1s0"};
        for (String text : refused) {
            Checks.landBy(x, text);
            Checks.due("villages behind " + text, x.many(0), 4);
            Checks.due("happened behind " + text, x.many(2), 1);
            Checks.due("letters behind " + text, x.many(3), 3);
            Checks.due("readings behind " + text, x.many(4), 1);
            Checks.due("runs behind " + text, x.runs(), 1050);
        }
    }

    private static void ofVillage(VillageCuts x, int v, int... due) {
        for (int what = 0; what < 6; what++) {
            Checks.due("ofVillage " + v + " " + what, x.ofVillage(v, what), due[what]);
        }
    }

    private static void ofVillage() {
        VillageCuts x = Checks.withLand(FOUR);
        ofVillage(x, 0, 0, 3, 0, 0, 0, 1);
        ofVillage(x, 1, 1, 3, 0, 0, 1, 0);
        ofVillage(x, 2, 2, 2, 0, 0, 0, 1);
        ofVillage(x, 3, 0, 2, 0, 0, 0, 1);
        int[] acts = {0, 0, 1, 1, 2, 3};
        for (int v : acts) {
            x.happen(v);
        }
        ofVillage(x, 0, 0, 3, 2, 3, 3, 0);
        ofVillage(x, 1, 1, 3, 2, 4, 5, 1);
        ofVillage(x, 2, 2, 2, 1, 2, 4, 1);
        ofVillage(x, 3, 0, 2, 1, 0, 0, 1);
        x.happen(3);
        ofVillage(x, 3, 0, 2, 2, 9, 9, 0);
        Checks.due("village -1", x.ofVillage(-1, 9), -1);
        Checks.due("village 4", x.ofVillage(4, 0), -1);
        Checks.due("what -1", x.ofVillage(0, -1), -2);
        Checks.due("what 6", x.ofVillage(0, 6), -2);
        VillageCuts many = Checks.withLand("v;pi9i1i7s0i2;dg0i9");
        int[] values = {9, 1, 7, 7, 2};
        for (int value : values) {
            many.happen(0);
            Checks.due("value", many.ofVillage(0, 3), value);
        }
    }

    private static void thing() {
        VillageCuts x = Checks.withLand("v;ps0g1i5;bg0s1;ds7i9");
        int[][] due = {{1, 0, 0, 0, 0, 0, -9}, {2, 1, 3, 1, 2, 0, -9}, {0, 5, 4, 2, 2, 0, -9}, {2, 0, 1, 1, 0, 0, -9},
            {1, 1, 2, 1, 1, 0, -9}, {1, 7, 0, 0, 0, 0, -9}, {0, 9, 1, 0, 0, 1, -9}};
        int[][] at = {{0, 0}, {0, 1}, {0, 2}, {1, 0}, {1, 1}, {2, 0}, {2, 1}};
        int[] whats = {0, 1, 2, 10, 11, 12, 13};
        for (int k = 0; k < at.length; k++) {
            for (int w = 0; w < whats.length; w++) {
                Checks.due("thing " + k + " what " + whats[w], x.thing(at[k][0], at[k][1], whats[w]), due[k][w]);
            }
        }
        int[][] unknown = {{-1, 0}, {3, 0}, {0, -1}, {0, 3}, {1, 2}, {2, 2}};
        for (int[] at2 : unknown) {
            Checks.due("no such thing", x.thing(at2[0], at2[1], 99), -1);
        }
        int[] outside = {-1, 3, 9, 14, Integer.MIN_VALUE, Integer.MAX_VALUE};
        for (int what : outside) {
            Checks.due("what " + what, x.thing(0, 0, what), -2);
        }
        VillageCuts chain = Checks.withLand("v;pi1i1i1i1s0;pg0i1i1i1s1;pg1i1i1i1s2;pg2i1i1i1i1");
        Checks.due("all are ahead", chain.thing(3, 4, 2), 19);
        for (int u = 0; u < 4; u++) {
            Checks.due("all of " + u, chain.thing(3, 4, 10 + u), u < 3 ? 5 : 4);
        }
        VillageCuts part = Checks.withLand("v;ps0i1s1;pg1g0");
        Checks.due("a letter behind stays ahead", part.thing(1, 1, 10), 3);
    }

    private static void ahead() {
        VillageCuts x = Checks.withLand("v;ps0g1i5;bg0s1;ds7i9");
        Checks.due("same", x.ahead(0, 1, 0, 1), 0);
        Checks.due("first of second, one village", x.ahead(0, 0, 0, 2), 1);
        Checks.due("second of first, one village", x.ahead(0, 2, 0, 0), 2);
        Checks.due("by a letter", x.ahead(0, 0, 1, 0), 1);
        Checks.due("by a letter, turned", x.ahead(1, 0, 0, 0), 2);
        Checks.due("by more", x.ahead(1, 0, 0, 2), 1);
        Checks.due("by more, turned", x.ahead(0, 2, 1, 0), 2);
        Checks.due("neither", x.ahead(2, 0, 0, 2), 3);
        Checks.due("neither, turned", x.ahead(0, 2, 2, 1), 3);
        Checks.due("next of the getter", x.ahead(1, 1, 0, 1), 1);
        Checks.due("same number, other villages", x.ahead(0, 0, 2, 0), 3);
        int[][] unknown = {{-1, 0, 0, 0}, {3, 0, 0, 0}, {0, 3, 0, 0}, {0, -1, 0, 0}, {0, 0, 3, 0}, {0, 0, -1, 0},
            {0, 0, 1, 2}, {0, 0, 1, -1}};
        for (int[] a : unknown) {
            Checks.due("unknown", x.ahead(a[0], a[1], a[2], a[3]), -1);
        }
    }
}
