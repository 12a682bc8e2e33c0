import java.util.Arrays;
import java.util.Set;

/**
 * Every call with each of its numbers just inside and just outside of what the document tells, all of them with one
 * another, in several states: each answer is held against the model's.
 */
public final class GridTest {
    private static final int MIN = Integer.MIN_VALUE, MAX = Integer.MAX_VALUE;
    private static final int[] SHEETS = {MIN, -1, 0, 1, 2, 3, 4, MAX};
    private static final int[] LANES = {MIN, -1, 0, 1, 2, 3, MAX};
    private static final int[] PLACES = {MIN, -1, 0, 1, 4, 5, 7, 8, 9, 29, 30, 60, MAX};
    private static final int[] LENGTHS = {MIN, -1, 0, 1, 2, 8, 9, 20, 21, 29, 30, 60, 61, MAX};
    private static final int[] WHATS = {MIN, -1, 0, 1, 2, 3, 4, 5, 6, 9, 10, 11, 12, 13, 14, MAX};
    private static final int[] VILLAGES = {MIN, -1, 0, 1, 2, 3, 4, MAX};
    private static final int[] THINGS = {MIN, -1, 0, 1, 2, 3, 4, 5, MAX};
    private static final int[] SUMS = {MIN, -1, 0, 1, 4, 14, 15, 98, 99, 100, MAX};
    private static final int[] VALUES = {MIN, -32769, -129, -128, -1, 0, 127, 128, 32767, 32768, MAX};
    private static final int[] ACTS = {MIN, -2, -1, 0, 1, 9, 10, 19, 20, MAX};
    private static final int[] READINGS = {MIN, -1, 0, 1, 2, 7, 8, 9, MAX};
    private static final String FOUR = "v;pi3s0g1;bg0i4s1;di2g2;ps2i9";
    private static final String TWO = "v;ps0;bg0i9";
    private static final Set<String> ONLY_ASKING = Set.of("tale", "cut", "ahead");
    private static final int MOST_CALLS = 400;

    private static VillageCuts x;
    private static Model model;
    private static int calls;

    private GridTest() {
    }

    public static void main(String[] args) {
        for (int state = 0; state < 4; state++) {
            ofLand(state);
            ofCuts(state);
            ofRuns(state);
            ofSheets(state);
        }
        Checks.end();
    }

    private static void ofLand(int state) {
        grid(state, "land", SHEETS, LANES, PLACES, LENGTHS);
        grid(state, "ofVillage", VILLAGES, WHATS);
        grid(state, "thing", VILLAGES, THINGS, WHATS);
        grid(state, "ahead", VILLAGES, THINGS, VILLAGES, THINGS);
        grid(state, "happen", VILLAGES);
        grid(state, "anew");
    }

    private static void ofCuts(int state) {
        grid(state, "cut", SHEETS, LANES, PLACES, WHATS);
        grid(state, "now", WHATS);
        grid(state, "tale", SHEETS, LANES, PLACES, LENGTHS, WHATS);
    }

    private static void ofRuns(int state) {
        grid(state, "cuts");
        grid(state, "runs");
        grid(state, "first", ACTS);
        grid(state, "some", SUMS);
        grid(state, "every", SUMS);
        grid(state, "reading", SHEETS, LANES, PLACES, SUMS);
        grid(state, "back", READINGS);
        grid(state, "kinds", VILLAGES);
        grid(state, "odds", SUMS, WHATS);
    }

    private static void ofSheets(int state) {
        grid(state, "sheet", SHEETS, LANES, LENGTHS);
        grid(state, "lose", SHEETS);
        grid(state, "put", SHEETS, PLACES, VALUES);
        grid(state, "cell", SHEETS, PLACES, LANES);
        grid(state, "copy", SHEETS, PLACES, SHEETS, PLACES, LENGTHS);
        grid(state, "tell", VILLAGES);
        grid(state, "ring", VILLAGES);
        grid(state, "as", VILLAGES, WHATS);
        grid(state, "trace");
        grid(state, "many", WHATS);
    }

    private static void grid(int state, String name, int[]... values) {
        begin(state);
        int[] at = new int[values.length];
        boolean more = true;
        while (more) {
            int[] a = new int[at.length];
            for (int k = 0; k < a.length; k++) {
                a[k] = values[k][at[k]];
            }
            long answer = both(name, a);
            both("fault");
            boolean mayHaveChanged = answer >= 0 && !ONLY_ASKING.contains(name);
            if (mayHaveChanged) {
                askAll();
            }
            if (mayHaveChanged || calls > MOST_CALLS) {
                begin(state);
            }
            more = turn(at, values);
        }
    }

    private static boolean turn(int[] at, int[][] values) {
        for (int k = 0; k < at.length; k++) {
            at[k]++;
            if (at[k] < values[k].length) {
                return true;
            }
            at[k] = 0;
        }
        return false;
    }

    private static long both(String name, int... a) {
        calls++;
        long due = model.call(name, a);
        Checks.due(name + Arrays.toString(a), Calls.call(x, name, a), due);
        return due;
    }

    /** 0: without a land; 1: a land of four; 2: a land of two, all has happened; 3: as 1, with all readings. */
    private static void begin(int state) {
        x = new VillageCuts();
        model = new Model();
        calls = 0;
        String text = state == 2 ? TWO : FOUR;
        both("sheet", 0, 0, text.length());
        for (int i = 0; i < text.length(); i++) {
            both("put", 0, i, text.charAt(i));
        }
        int[] row = {1, 1, 0, 1, 0, 0, 1, 3};
        both("sheet", 1, 1, row.length);
        for (int i = 0; i < row.length; i++) {
            both("put", 1, i, row[i]);
        }
        both("sheet", 2, 2, 2);
        both("put", 2, 1, 1);
        if (state > 0) {
            both("land", 0, 0, 0, text.length());
            happened(state);
        }
        for (int number = 0; state == 3 && number < 8; number++) {
            both("reading", 1, 1, 0, 4);
        }
    }

    private static void happened(int state) {
        int[] acts = state == 2 ? new int[] {0, 1, 1} : new int[] {0, 0, 3};
        for (int v : acts) {
            both("happen", v);
        }
        both("tell", 1);
    }

    private static void askAll() {
        for (int what = 0; what < 5; what++) {
            both("many", what);
        }
        for (int k = 0; k < 4; k++) {
            both("now", k);
            both("kinds", k);
            for (int i = 0; i < 9; i++) {
                both("cell", k, i, k % 3);
            }
            both("cell", k, 59, k % 3);
            both("cell", k, 60, k % 3);
            both("lose", k);
        }
        both("trace");
    }
}
