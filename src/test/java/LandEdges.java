/** Terms, part 1, and promises 1 to 5: a new object, land, ofVillage, thing, ahead. */
final class LandEdges {
    private static final int KEPT = Refused.KEPT;
    private static final String MOST = "v;pi1i2i3i4i5;bi1i2i3i4i5;di1i2i3i4i5;pi1i2i3i4i5";
    private static final String CHAIN = "v;pi1i1i1i1s0;pg0i1i1i1s1;pg1i1i1i1s2;pg2i1i1i1i1";

    private LandEdges() {
    }

    static void all() {
        text();
        things();
        firstFault();
        codes();
        amiss();
        ahead();
        circles();
        taken();
        worth();
        newObject();
        land();
        ofVillage();
        thing();
        aheadOfTwo();
    }

    private static void takes(String text, int want) {
        Clause.due("land by " + text, Checks.landBy(new VillageCuts(), text), want);
    }

    /** Of all bytes just those codes go on behind a beginning. */
    private static void goOn(String beginning, String codes) {
        int n = beginning.length();
        for (int code = Byte.MIN_VALUE; code <= Byte.MAX_VALUE; code++) {
            VillageCuts x = new VillageCuts();
            Checks.write(x, 0, 0, beginning + "?");
            x.put(0, n, code);
            boolean isFault = x.land(0, 0, 0, n + 1) == -100 - n;
            boolean goesOn = code >= 0 && codes.indexOf(code) >= 0;
            Clause.due(beginning + " and code " + code + " goes on", isFault ? 0 : 1, goesOn ? 1 : 0);
        }
    }

    private static void text() {
        Clause.terms("A LAND by a TEXT: v");
        goOn("", "v");
        takes("", -100);
        takes("v", -101);
        takes(";pi1;pi1", -100);
        takes("vv;pi1;pi1", -101);
        Clause.terms("then 2 to 4 VILLAGES, numbered from 0 on");
        String text = "v";
        int[] due = {-101, -105, 2, 3, 4, -117};
        for (int villages = 0; villages <= 5; villages++) {
            takes(text, due[villages]);
            text += ";pi" + villages;
        }
        VillageCuts x = Checks.withLand("v;pi5;pi6");
        Clause.due(x, "thing(0, 0, 1)", 5);
        Clause.due(x, "thing(1, 0, 1)", 6);
        Clause.due(x, "thing(2, 0, 1)", -1);
        Clause.due(x, "thing(-1, 0, 1)", -1);
        VillageCuts four = Checks.withLand("v;pi5;pi6;pi7;pi8");
        Clause.due(four, "thing(3, 0, 1)", 8);
        Clause.due(four, "thing(4, 0, 1)", -1);
        Clause.terms("each: ; and a letter (its kind)");
        goOn("v", ";");
        goOn("v;", "pbd");
        goOn("v;pi1;", "pbd");
        takes("v;;pi1;pi1", -102);
        takes("v;i1;pi1", -102);
        takes("v;pi1;i1", -106);
    }

    private static void things() {
        Clause.terms("then 1 to 5 THINGS, numbered from 0 on");
        goOn("v;p", "isg");
        takes("v;p;pi1", -103);
        takes("v;pi1;p", -107);
        takes("v;pi1;p;pi1", -107);
        takes("v;pi1i2i3i4i5;pi1", 2);
        takes("v;pi1i2i3i4i5i6;pi1", -113);
        VillageCuts x = Checks.withLand("v;pi5i6i7i8i9;pi1");
        for (int t = 0; t < 5; t++) {
            Clause.due("thing " + t, x.thing(0, t, 1), t + 5);
        }
        Clause.due(x, "thing(0, -1, 1)", -1);
        Clause.due(x, "thing(0, 5, 1)", -1);
        Clause.due(x, "thing(1, 1, 1)", -1);
        Clause.terms("each: i and a digit 0 .. 9 (the VALUE of the VILLAGE becomes that");
        goOn("v;pi", "0123456789");
        VillageCuts values = Checks.withLand("v;pi9i0i1;pi8");
        int[] due = {9, 0, 1};
        for (int value : due) {
            values.happen(0);
            Clause.due(values, "ofVillage(0, 3)", value);
            Clause.due(values, "ofVillage(1, 3)", 0);
        }
        Clause.terms("it is 0 ahead of any)");
        VillageCuts late = Checks.withLand("v;ps0s1i7;pg0g1");
        int[] dueLate = {0, 0, 0, 7};
        for (int value : dueLate) {
            Clause.due(late, "ofVillage(0, 3)", value);
            late.happen(0);
        }
        late.happen(1);
        late.happen(1);
        Clause.due(late, "ofVillage(1, 3)", 0);
        Clause.terms("or s and a digit 0 .. 7 (LETTER of that number is SENT)");
        goOn("v;ps", "01234567");
        VillageCuts sent = Checks.withLand("v;ps0;bs7");
        sent.happen(0);
        sent.happen(1);
        Clause.due(sent, "now(1)", 129);
        Clause.due(sent, "thing(1, 0, 0)", 1);
        Clause.terms("or g and a digit 0 .. 7 (that LETTER is GOT)");
        goOn("v;pg", "01234567");
        VillageCuts got = Checks.withLand("v;ps0s7;bg7g0");
        got.happen(0);
        got.happen(0);
        Clause.due(got, "now(1)", 129);
        got.happen(1);
        Clause.due(got, "now(1)", 1);
        got.happen(1);
        Clause.due(got, "now(1)", 0);
        Clause.due(got, "thing(1, 1, 0)", 2);
    }

    private static void firstFault() {
        Clause.terms("FIRST FAULT: the place (from 0 on) of the first code with which no TEXT goes on");
        goOn("v;pi1", "isg;");
        goOn("v;pi1i2i3i4", "isg;");
        goOn("v;pi1;pi2", "isg;");
        takes("xy", -100);
        takes("v;xy", -102);
        takes("v;pix;pi", -104);
        takes("v;pi1;pi2x", -109);
        takes("v;pi1;pi2v", -109);
        takes(MOST + "x", -149);
        VillageCuts x = new VillageCuts();
        Checks.write(x, 0, 0, "v;v;px1;pi1");
        Clause.due(x, "land(0, 0, 2, 9)", -103);
        Clause.terms("(a THING behind the fifth");
        goOn("v;pi1i2i3i4i5", ";");
        goOn("v;pi1;pi1i2i3i4i5", ";");
        takes("v;pi1i2i3i4i5g", -113);
        takes("v;pi1i2i3i4i5s0;pi1", -113);
        Clause.terms("the ; of a fifth VILLAGE)");
        goOn("v;pi1;pi1;pi1;pi1", "isg");
        goOn("v;pi1;pi1;pi1", "isg;");
        goOn(MOST, "");
        takes("v;pi1;pi1;pi1;pi1;", -117);
        takes(MOST + ";pi1", -149);
        Clause.terms("how many codes there are, if it just ends too soon");
        String whole = "v;pi1s0;bi2g0;di3s5i4;ps7i9";
        int villages = 0;
        for (int n = 0; n <= whole.length(); n++) {
            String part = whole.substring(0, n);
            villages += part.endsWith(";") ? 1 : 0;
            boolean isText = villages >= 2 && part.matches(".*[0-9]");
            takes(part, isText ? villages : -100 - n);
        }
        VillageCuts later = new VillageCuts();
        Checks.write(later, 0, 0, "xxv;pi1;pi1");
        Clause.due(later, "land(0, 0, 2, 8)", -108);
        Clause.due(later, "land(0, 0, 11, 0)", -100);
    }

    private static void codes() {
        Clause.terms("(Codes: v 118, p 112, b 98, d 100, i 105, s 115, g 103, ; 59, digits 48 .. 57.)");
        int[] text = {118, 59, 112, 105, 48, 115, 55, 59, 98, 103, 55, 105, 57, 59, 100, 115, 48};
        for (int lane = 0; lane < 3; lane++) {
            VillageCuts x = new VillageCuts();
            Checks.row(x, lane, lane, text);
            Clause.due("by numbers", x.land(lane, lane, 0, text.length), 3);
            Clause.due(x, "ofVillage(0, 0)", 0);
            Clause.due(x, "ofVillage(1, 0)", 1);
            Clause.due(x, "ofVillage(2, 0)", 2);
            Clause.due(x, "thing(0, 0, 1)", 0);
            Clause.due(x, "thing(1, 1, 1)", 9);
        }
        for (int place = 0; place < text.length; place++) {
            // a code is its whole number, not what a byte would keep of it
            int[] others = {text[place] + 256, text[place] - 256, text[place] + 65536, -text[place]};
            for (int other : others) {
                VillageCuts x = new VillageCuts();
                Checks.row(x, 0, 2, text);
                x.put(0, place, other);
                Clause.due(other + " at " + place, x.land(0, 2, 0, text.length), -100 - place);
            }
        }
        takes("v;pi/;pi1", -104);
        takes("v;pi:;pi1", -104);
        Clause.terms("Kinds: 0 PLAIN (p); 1 BROAD (b), a PLAIN one; 2 DOUBLE (d), a BROAD one.");
        VillageCuts x = Checks.withLand("v;pi1;bi1;di1");
        for (int v = 0; v < 3; v++) {
            Clause.due("kind of " + v, x.ofVillage(v, 0), v);
            for (int kind = 0; kind < 3; kind++) {
                Clause.due(v + " as " + kind, x.as(v, kind), kind <= v ? 1 : -12);
            }
        }
        takes("v;Pi1;bi1", -102);
    }

    private static void amiss() {
        Clause.terms("A LETTER is AMISS, if it is SENT twice or more");
        takes("v;ps1s1;pi1", -201);
        takes("v;ps7;ps7", -207);
        takes("v;ps0s0s0;pi1", -200);
        takes("v;ps0s0;pg0", -200);
        takes("v;ps0;pg0;ps0", -200);
        takes("v;ps0;pi1", 2);
        Clause.terms("GOT twice or more");
        takes("v;ps5;pg5g5", -205);
        takes("v;ps5;pg5;pg5", -205);
        takes("v;ps5;pg5g5g5", -205);
        takes("v;pg7g7;pi1", -207);
        takes("v;ps5;pg5", 2);
        Clause.terms("GOT and not SENT");
        takes("v;pg7;pi1", -207);
        takes("v;pi1;pg0", -200);
        takes("v;ps0;pg1", -201);
        Clause.terms("SENT and GOT in one VILLAGE");
        takes("v;ps4g4;pi1", -204);
        takes("v;pg4s4;pi1", -204);
        takes("v;pi1;ps4i1i1i1g4", -204);
        takes("v;ps4;ps5g4;pg5", 3);
    }

    private static void ahead() {
        Clause.terms("AHEAD of a THING is each one ahead of it in its VILLAGE");
        VillageCuts x = Checks.withLand("v;pi1i2s0i4i5;pi1");
        for (int t = 0; t < 5; t++) {
            Clause.due("ahead of " + t, x.thing(0, t, 2), t);
            Clause.due("none of another village ahead of " + t, x.thing(0, t, 11), 0);
        }
        Clause.terms("if a LETTER is GOT by it, that by which it is SENT");
        VillageCuts letter = Checks.withLand("v;pi1s0i1;pi1g0i1");
        Clause.due("not by the one ahead of the getting", letter.thing(1, 0, 10), 0);
        Clause.due("by the getting", letter.thing(1, 1, 10), 2);
        Clause.due("no more by the next", letter.thing(1, 2, 10), 2);
        Clause.due(letter, "ahead(0, 1, 1, 1)", 1);
        Clause.due(letter, "ahead(0, 2, 1, 2)", 3);
        Clause.due("the sending waits for none", letter.thing(0, 1, 11), 0);
        Clause.terms("and whatever is AHEAD of one that is AHEAD of it");
        VillageCuts chain = Checks.withLand(CHAIN);
        Clause.due("all others are ahead of the last", chain.thing(3, 4, 2), 19);
        Clause.due(chain, "ahead(0, 0, 3, 0)", 1);
        VillageCuts less = Checks.withLand("v;ps0i1s1;pg1g0");
        Clause.due("the later letter's still", less.thing(1, 1, 10), 3);
    }

    private static void circles() {
        Clause.terms("A LAND, in which a THING would be AHEAD of itself, is a CIRCLE.");
        takes("v;pg0s1;pg1s0", -300);
        takes("v;pi1i1i1g0s1;pi1i1i1g1s0", -300);
        takes("v;pg0s1;pg1s2;pg2s0", -300);
        takes("v;pg0s1;pg1s2;pg2s3;pg3s0", -300);
        takes("v;pi1;pi1;pg0s1;pg1s0", -300);
        takes("v;pi1s4g0i1s1;pg4g1i1s0", -300);
        takes("v;pg0s1;ps0g1", 2);
        takes("v;ps0g1;ps1g0", 2);
        takes("v;pg0s1;pg1s2;pg2s3;pg3s4", -200);
        takes("v;ps0g3;pg0s1;pg1s2;pg2s3", 4);
    }

    private static void taken() {
        Clause.terms("A TEXT that is taken makes all anew: nothing has HAPPENED, no READINGS.");
        VillageCuts x = Refused.withLand();
        Clause.due(x, "cuts()", 56);
        Clause.due(x, "land(0, 0, 0, 29)", 4);
        Clause.due(x, "many(2)", 0);
        Clause.due(x, "many(4)", 0);
        Clause.due(x, "back(1)", -2);
        for (int v = 0; v < 4; v++) {
            Clause.due("happened in " + v, x.ofVillage(v, 2), 0);
        }
        Clause.due(x, "reading(1, 1, 0, 4)", 0);
        Clause.due("another", Checks.landBy(x, "v;pi1;bi2"), 2);
        Clause.due(x, "many(0)", 2);
        Clause.due(x, "many(1)", 2);
        Clause.due(x, "many(3)", 0);
        Clause.due(x, "many(4)", 0);
        Clause.due(x, "cuts()", 4);
        Clause.due(x, "runs()", 2);
        Clause.due(x, "first(2)", -9);
        Clause.due(x, "ofVillage(2, 0)", -1);
        Clause.due(x, "thing(0, 1, 0)", -1);
    }

    private static void worth() {
        Clause.terms("WORTH of a VILLAGE of some VALUE: a PLAIN one VALUE; a BROAD one 1 more; a DOUBLE one twice "
            + "what a PLAIN one's is.");
        VillageCuts x = Checks.withLand("v;pi9i0;bi9i0;di9i0");
        int[][] due = {{0, 9, 0}, {1, 10, 1}, {0, 18, 0}};
        for (int count = 0; count < 3; count++) {
            for (int v = 0; v < 3; v++) {
                Clause.due("worth of " + v + " at " + count, x.ofVillage(v, 4), due[v][count]);
                x.happen(v);
            }
        }
    }

    private static void newObject() {
        Clause.promise(1, "No LAND (no VILLAGES)");
        VillageCuts x = new VillageCuts();
        for (int what = 0; what < 5; what++) {
            Clause.due("many " + what, x.many(what), 0);
        }
        Clause.due(x, "ofVillage(0, 0)", -1);
        Clause.due(x, "kinds(0)", -1);
        Clause.due(x, "tell(0)", -1);
        Clause.due(x, "cuts()", -3);
        Clause.due(x, "now(0)", -3);
        Clause.promise(1, "SHEETS have nothing");
        for (int k = 0; k < 4; k++) {
            Clause.due("put " + k, x.put(k, 0, 0), -11);
            Clause.due("lose " + k, x.lose(k), 0);
        }
    }

    private static void land() {
        Clause.promise(2, "A LAND by a TEXT of n cells of a SHEET from i on, taken as a row of a LANE: how many "
            + "VILLAGES");
        VillageCuts x = new VillageCuts();
        Checks.write(x, 0, 1, "xv;pi1;pi2i3s");
        Clause.due(x, "land(0, 1, 1, 9)", 2);
        Clause.due(x, "thing(1, 1, 0)", -1);
        Clause.due(x, "land(0, 1, 1, 11)", 2);
        Clause.due(x, "thing(1, 1, 1)", 3);
        Clause.due(x, "land(0, 1, 1, 12)", -112);
        takes(MOST, 4);
        Clause.promise(2, "-100 less the FIRST FAULT");
        takes("", -100);
        takes("x", -100);
        takes(MOST + "i", -149);
        Refused.onLand("land(0, 0, 1, 28)", -100, 0);
        Refused.onLand("land(0, 0, 0, 28)", -128, 0);
        Clause.promise(2, "-200 less the least LETTER that is AMISS");
        takes("v;pg7g0;pi1", -200);
        takes("v;pg7g6g5;pi1", -205);
        takes("v;ps3;pg3g2;pg2", -202);
        takes("v;pi1;pg7", -207);
        amissChangesNothing();
        Clause.promise(2, "-300: it is a CIRCLE");
        takes("v;pg0s1;pg1s0", -300);
        circleChangesNothing();
        Clause.promise(2, "UNKNOWN");
        Refused.onLand("land(-1, 0, 0, 29)", -1, 0);
        Refused.onLand("land(4, 3, -1, -1)", -1, 0);
        Refused.onLand("land(MIN, 0, 0, 29)", -1, 0);
        Refused.onLand("land(MAX, 0, 0, 29)", -1, 0);
        Clause.promise(2, "OUTSIDE: lane");
        Refused.onLand("land(0, -1, 0, 29)", -2, 0);
        Refused.onLand("land(0, 3, 0, 29)", -2, 0);
        Refused.onLand("land(3, 3, -1, -1)", -2, 0);
        Refused.onLand("land(0, MIN, -1, -1)", -2, 0);
        Refused.onLand("land(0, MAX, -1, -1)", -2, 0);
        landFaults();
    }

    private static void amissChangesNothing() {
        VillageCuts x = Refused.withLand();
        Clause.due("amiss", Checks.landBy(x, "v;ps1s1;pi1"), -201);
        Clause.due(x, "fault()", 0);
        isAsItWas(x);
    }

    private static void circleChangesNothing() {
        VillageCuts x = Refused.withLand();
        Clause.due("circle", Checks.landBy(x, "v;pg0s1;pg1s0"), -300);
        Clause.due(x, "fault()", 0);
        isAsItWas(x);
    }

    private static void isAsItWas(VillageCuts x) {
        Clause.due(x, "many(0)", 4);
        Clause.due(x, "many(1)", 10);
        Clause.due(x, "many(2)", 3);
        Clause.due(x, "many(3)", 3);
        Clause.due(x, "many(4)", 1);
        Clause.due(x, "cuts()", 56);
        Clause.due(x, "now(0)", 4);
    }

    private static void landFaults() {
        Clause.promise(2, "FAULTS CAST (nothing is no CAST)");
        Refused.onLand("land(0, 1, -1, -1)", -12, 2);
        Refused.onLand("land(1, 0, 0, 99)", -12, 2);
        Refused.onLand("land(2, 1, 0, 0)", -12, 2);
        Refused.onLand("land(3, 0, 0, 0)", -11, 1);
        Refused.onLand("land(3, 1, 0, 0)", -11, 1);
        Refused.onLand("land(3, 2, 0, 0)", -11, 1);
        Clause.promise(2, "NULL");
        Refused.onLand("land(3, 0, -1, -1)", -11, 1);
        VillageCuts lost = Refused.withLand();
        lost.lose(0);
        Clause.due(lost, "land(0, 0, 0, 29)", -11);
        Clause.due(lost, "land(0, 2, 0, 29)", -11);
        Clause.due(lost, "many(0)", 4);
        Clause.promise(2, "SIZE: n is below 0");
        Refused.onLand("land(0, 0, -1, -1)", -14, 4);
        Refused.onLand("land(0, 0, 99, -1)", -14, 4);
        Refused.onLand("land(0, 0, 0, MIN)", -14, 4);
        Refused.onLand("land(0, 0, 29, 0)", -100, 0);
        Clause.promise(2, "INDEX: not all cells are there");
        Refused.onLand("land(0, 0, 0, 30)", -13, 3);
        Refused.onLand("land(0, 0, 1, 29)", -13, 3);
        Refused.onLand("land(0, 0, -1, 29)", -13, 3);
        Refused.onLand("land(0, 0, 29, 1)", -13, 3);
        Refused.onLand("land(0, 0, 1, MAX)", -13, 3);
        Refused.onLand("land(0, 0, MAX, 1)", -13, 3);
        Refused.onLand("land(0, 0, MAX, MAX)", -13, 3);
        Refused.onLand("land(0, 0, MIN, MAX)", -13, 3);
        Clause.promise(2, "then these, in this order.");
        Refused.onLand("land(0, 0, 1, 29)", -13, 3);
        takes("v;pg0g0;pg1x", -111);
        takes("v;pg0s1;pg1s0x", -113);
        takes("v;pg0s1g7;pg1s0", -207);
        takes("v;pg0s1;pg1s0", -300);
    }

    private static void ofVillage() {
        Clause.promise(3, "Of a VILLAGE: 0 kind, 1 how many THINGS, 2 how many of them have HAPPENED, 3 VALUE NOW, "
            + "4 WORTH NOW");
        VillageCuts x = Checks.withLand("v;pi9;di9i0s0i8i7");
        int[][] first = {{0, 1, 0, 0, 0}, {2, 5, 0, 0, 0}};
        villagesAre(x, first);
        x.happen(0);
        for (int t = 0; t < 4; t++) {
            x.happen(1);
        }
        villagesAre(x, new int[][] {{0, 1, 1, 9, 9}, {2, 5, 4, 8, 16}});
        x.happen(1);
        villagesAre(x, new int[][] {{0, 1, 1, 9, 9}, {2, 5, 5, 7, 14}});
        x.anew();
        villagesAre(x, first);
        Clause.promise(3, "5 whether its next THING can HAPPEN (1, 0");
        VillageCuts wait = Checks.withLand("v;pg0i1;bi1s0");
        Clause.due(wait, "ofVillage(0, 5)", 0);
        Clause.due(wait, "ofVillage(1, 5)", 1);
        wait.happen(1);
        Clause.due(wait, "ofVillage(0, 5)", 0);
        wait.happen(1);
        Clause.due(wait, "ofVillage(0, 5)", 1);
        Clause.promise(3, "0: there is none)");
        Clause.due(wait, "ofVillage(1, 5)", 0);
        wait.happen(0);
        Clause.due(wait, "ofVillage(0, 5)", 1);
        wait.happen(0);
        Clause.due(wait, "ofVillage(0, 5)", 0);
        Clause.promise(3, "UNKNOWN");
        Refused.onLand("ofVillage(-1, 0)", -1, KEPT);
        Refused.onLand("ofVillage(4, 6)", -1, KEPT);
        Refused.onLand("ofVillage(MIN, 0)", -1, KEPT);
        Refused.onLand("ofVillage(MAX, 0)", -1, KEPT);
        Refused.withoutLand("ofVillage(0, 0)", -1, KEPT);
        Clause.due(wait, "ofVillage(2, 0)", -1);
        Clause.promise(3, "OUTSIDE");
        Refused.onLand("ofVillage(3, -1)", -2, KEPT);
        Refused.onLand("ofVillage(3, 6)", -2, KEPT);
        Refused.onLand("ofVillage(0, MIN)", -2, KEPT);
        Refused.onLand("ofVillage(0, MAX)", -2, KEPT);
    }

    private static void villagesAre(VillageCuts x, int[][] due) {
        for (int v = 0; v < due.length; v++) {
            for (int what = 0; what < 5; what++) {
                Clause.due("ofVillage " + v + " " + what, x.ofVillage(v, what), due[v][what]);
            }
        }
    }

    private static void thing() {
        Clause.promise(4, "Of a THING: 0 what (0 a VALUE, 1 SENT, 2 GOT), 1 its digit");
        VillageCuts x = Checks.withLand("v;pi0i9s0s7;dg7g0");
        int[][] due = {{0, 0}, {0, 9}, {1, 0}, {1, 7}};
        for (int t = 0; t < 4; t++) {
            Clause.due("what " + t, x.thing(0, t, 0), due[t][0]);
            Clause.due("digit " + t, x.thing(0, t, 1), due[t][1]);
        }
        Clause.due(x, "thing(1, 0, 0)", 2);
        Clause.due(x, "thing(1, 0, 1)", 7);
        Clause.due(x, "thing(1, 1, 0)", 2);
        Clause.due(x, "thing(1, 1, 1)", 0);
        Clause.promise(4, "2 how many THINGS of all VILLAGES are AHEAD of it");
        Clause.due(x, "thing(0, 0, 2)", 0);
        Clause.due(x, "thing(1, 0, 2)", 4);
        Clause.due(x, "thing(1, 1, 2)", 5);
        VillageCuts chain = Checks.withLand(CHAIN);
        Clause.due(chain, "thing(3, 4, 2)", 19);
        Clause.due(chain, "thing(3, 0, 2)", 15);
        Clause.due(chain, "thing(0, 0, 2)", 0);
        Clause.promise(4, "10 and u how many THINGS of VILLAGE u are AHEAD of it");
        int[] aheadOfLast = {5, 5, 5, 4};
        for (int u = 0; u < 4; u++) {
            Clause.due("of village " + u, chain.thing(3, 4, 10 + u), aheadOfLast[u]);
            Clause.due("ahead of the first, of village " + u, chain.thing(0, 0, 10 + u), 0);
        }
        Clause.promise(4, "(NONE: there is no such VILLAGE)");
        Clause.due(x, "thing(0, 0, 11)", 0);
        Clause.due(x, "thing(0, 0, 12)", -9);
        Clause.due(x, "thing(0, 0, 13)", -9);
        VillageCuts three = Checks.withLand("v;pi1;pi1;pi1");
        Clause.due(three, "thing(0, 0, 12)", 0);
        Clause.due(three, "thing(0, 0, 13)", -9);
        Clause.promise(4, "UNKNOWN: VILLAGE, THING");
        String[] unknown = {"thing(-1, 0, 0)", "thing(4, 0, 0)", "thing(MIN, 0, 0)", "thing(MAX, 0, 0)",
            "thing(0, -1, 0)", "thing(0, 3, 0)", "thing(2, 2, 0)", "thing(0, MIN, 0)", "thing(0, MAX, 0)",
            "thing(0, 3, 99)"};
        for (String call : unknown) {
            Refused.onLand(call, -1, KEPT);
        }
        Refused.withoutLand("thing(0, 0, 0)", -1, KEPT);
        Clause.promise(4, "OUTSIDE: what (0 .. 2, 10 .. 13)");
        String[] outside = {"-1", "3", "9", "14", "MIN", "MAX"};
        for (String what : outside) {
            Refused.onLand("thing(0, 0, " + what + ")", -2, KEPT);
        }
        Clause.due(three, "thing(0, 0, 14)", -2);
    }

    private static void aheadOfTwo() {
        VillageCuts x = Checks.withLand("v;ps0g1i5;bg0s1;ds7i9");
        Clause.promise(5, "Of two THINGS: 0 they are the same");
        Clause.due(x, "ahead(0, 0, 0, 0)", 0);
        Clause.due(x, "ahead(2, 1, 2, 1)", 0);
        Clause.due(x, "ahead(0, 1, 1, 1)", 2);
        Clause.promise(5, "1 the first is AHEAD of the second");
        Clause.due(x, "ahead(0, 0, 0, 1)", 1);
        Clause.due(x, "ahead(0, 0, 1, 0)", 1);
        Clause.due(x, "ahead(0, 0, 0, 2)", 1);
        Clause.due(x, "ahead(1, 0, 0, 2)", 1);
        Clause.promise(5, "2 the second of the first");
        Clause.due(x, "ahead(0, 1, 0, 0)", 2);
        Clause.due(x, "ahead(1, 0, 0, 0)", 2);
        Clause.due(x, "ahead(0, 2, 1, 0)", 2);
        Clause.promise(5, "3 neither");
        Clause.due(x, "ahead(0, 0, 2, 0)", 3);
        Clause.due(x, "ahead(2, 1, 0, 2)", 3);
        Clause.due(Checks.withLand("v;ps0i1;pi1g0"), "ahead(0, 1, 1, 1)", 3);
        Clause.promise(5, "UNKNOWN: VILLAGE, THING of the first, of the second");
        String[] unknown = {"-1, 0, 0, 0", "4, 0, 0, 0", "0, -1, 0, 0", "0, 3, 0, 0", "0, 0, -1, 0", "0, 0, 4, 0",
            "0, 0, 0, -1", "0, 0, 2, 2", "0, 0, 0, 3", "4, 0, 4, 0", "0, 3, 0, 3", "MIN, 0, 0, 0", "0, MAX, 0, 0",
            "0, 0, MAX, 0", "0, 0, 0, MIN"};
        for (String a : unknown) {
            Refused.onLand("ahead(" + a + ")", -1, KEPT);
        }
        Refused.withoutLand("ahead(0, 0, 1, 0)", -1, KEPT);
    }
}
