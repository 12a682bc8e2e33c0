/** What the tests share: counting answers that are due, and putting rows and texts into sheets. */
final class Checks {
    private static int passed = 0;
    private static int failed = 0;
    private static String heading = "";

    private Checks() {
    }

    static void due(String call, long got, long want) {
        if (got == want) {
            passed++;
        } else {
            wrong(call + " answered " + got + ", due is " + want);
        }
    }

    static void wrong(String what) {
        failed++;
        System.out.println(heading + what);
    }

    /** What stands ahead of all that is told as wrong from now on. */
    static void about(String words) {
        heading = words;
    }

    /** A new sheet of a lane that holds a text from its first cell on. */
    static void write(VillageCuts x, int sheet, int lane, String text) {
        due("sheet for " + text, x.sheet(sheet, lane, text.length()), 1);
        for (int i = 0; i < text.length(); i++) {
            due("put for " + text, x.put(sheet, i, text.charAt(i)), 1);
        }
    }

    static void row(VillageCuts x, int sheet, int lane, int... cells) {
        due("sheet for a row", x.sheet(sheet, lane, cells.length), 1);
        for (int i = 0; i < cells.length; i++) {
            due("put for a row", x.put(sheet, i, cells[i]), 1);
        }
    }

    static int landBy(VillageCuts x, String text) {
        write(x, 3, 0, text);
        return x.land(3, 0, 0, text.length());
    }

    /** A new object with a land, that sheet 3 holds. */
    static VillageCuts withLand(String text) {
        VillageCuts x = new VillageCuts();
        due("land " + text, landBy(x, text), text.chars().filter(c -> c == ';').count());
        return x;
    }

    static int cut(VillageCuts x, int what, int... cells) {
        row(x, 2, 2, cells);
        return x.cut(2, 2, 0, what);
    }

    static int tale(VillageCuts x, int what, int... cells) {
        row(x, 2, 2, cells);
        return x.tale(2, 2, 0, cells.length, what);
    }

    static int reading(VillageCuts x, int sum, int... cells) {
        row(x, 2, 2, cells);
        return x.reading(2, 2, 0, sum);
    }

    static void end() {
        System.out.println(passed + " passed, " + failed + " failed");
        if (failed != 0) {
            System.exit(1);
        }
    }
}
