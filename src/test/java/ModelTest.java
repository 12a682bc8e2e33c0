import java.util.ArrayList;
import java.util.Collections;
import java.util.List;
import java.util.Random;

/** Random runs of calls on fresh objects, each answer held against the model's; a fixed seed, so always the same. */
public final class ModelTest {
    private static final int RUNS = 1500;
    private static final int CALLS = 512;
    private static final int[] FAR = {Integer.MIN_VALUE, Integer.MIN_VALUE + 1, -100, -2, -1, 4, 14, 61, 100, 1000,
        Integer.MAX_VALUE - 1, Integer.MAX_VALUE};

    private final Random random;
    private final VillageCuts real = new VillageCuts();
    private final Model model = new Model();
    private final String run;
    private int calls = 0;

    private ModelTest(int run) {
        this.random = new Random(run);
        this.run = "run " + run + ": ";
    }

    public static void main(String[] args) {
        for (int run = 0; run < RUNS; run++) {
            new ModelTest(run).go();
        }
        Checks.end();
    }

    private void go() {
        if (random.nextInt(4) > 0) {
            newLand();
        }
        while (calls < CALLS) {
            act();
        }
    }

    private long call(String name, int... a) {
        if (calls++ >= CALLS) {
            return 0;
        }
        long want = model.call(name, a);
        long got = Calls.call(real, name, a);
        Checks.due(run + name + java.util.Arrays.toString(a), got, want);
        return got;
    }

    private int any(int bound) {
        return random.nextInt(25) == 0 ? FAR[random.nextInt(FAR.length)] : random.nextInt(bound);
    }

    private int what() {
        int[] whats = {0, 1, 2, 3, 10, 11, 12, 13};
        return random.nextInt(25) == 0 ? random.nextInt(20) - 3 : whats[random.nextInt(whats.length)];
    }

    private void act() {
        switch (random.nextInt(40)) {
            case 0: newLand(); break;
            case 1: call("ofVillage", any(4), any(6)); break;
            case 2: call("thing", any(4), any(5), what()); break;
            case 3: call("ahead", any(4), any(5), any(4), any(5)); break;
            case 4: case 5: case 6: call("happen", any(4)); break;
            case 7: if (random.nextInt(4) == 0) { call("anew"); } break;
            case 8: case 9: case 10: newRow(4, 6); call("cut", 1, lane, 0, what()); break;
            case 11: call("now", any(3)); break;
            case 12: case 13: case 14: newTale(); break;
            case 15: call("cuts"); break;
            case 16: call("runs"); break;
            case 17: call("first", any(21) - 1); break;
            case 18: case 19: call("some", any(40)); break;
            case 20: case 21: call("every", any(40)); break;
            case 22: case 23: newReading(); break;
            case 24: call("back", any(3)); break;
            case 25: call("kinds", any(4)); break;
            case 26: call("odds", any(40), any(2)); break;
            case 27: call("sheet", any(4), any(3), any(61)); break;
            case 28: call("lose", any(4)); break;
            case 29: call("put", any(4), any(60), random.nextInt()); break;
            case 30: call("cell", any(4), any(60), any(3)); break;
            case 31: case 32: call("copy", any(4), any(10), any(4), any(10), any(10)); break;
            case 33: call("tell", any(4)); break;
            case 34: call("ring", any(4)); break;
            case 35: call("as", any(4), any(3)); break;
            case 36: call("trace"); call("fault"); break;
            case 37: call("many", any(5)); break;
            case 38: call("land", any(4), any(3), any(5), any(40)); break;
            default: call("cut", any(4), any(3), any(9), what()); call("fault"); break;
        }
    }

    private int lane = 0;

    private void newRow(int n, int bound) {
        lane = random.nextInt(3);
        call("sheet", 1, lane, n);
        for (int i = 0; i < n; i++) {
            call("put", 1, i, any(bound));
        }
    }

    /** Mostly acts that the villages can go on with. */
    private void newTale() {
        int n = random.nextInt(12);
        newRow(n, 4);
        for (int k = 0; k < 3; k++) {
            call("tale", 1, lane, 0, n, what());
        }
        call("tale", any(4), any(3), any(4), any(22), what());
    }

    private void newReading() {
        newRow(4, 3);
        long sum = call("cut", 1, lane, 0, 1);
        call("reading", 1, lane, 0, sum < 0 ? any(100) : (int) sum + random.nextInt(3) % 2);
        for (int v = 0; v < 4; v++) {
            call("kinds", v);
        }
    }

    private void newLand() {
        String text = text();
        lane = random.nextInt(3);
        int before = random.nextInt(3);
        call("sheet", 0, lane, before + text.length());
        for (int i = 0; i < text.length(); i++) {
            call("put", 0, before + i, text.charAt(i));
        }
        call("land", 0, lane, before, text.length());
        if (random.nextInt(3) == 0) {
            call("put", 0, before + any(text.length()), "v;pbdisg0123456789x".charAt(random.nextInt(19)));
            call("land", 0, lane, before, text.length() - random.nextInt(2));
        }
        call("many", any(5));
    }

    private String text() {
        int villages = 2 + random.nextInt(3);
        int most = 1 + random.nextInt(5);
        List<List<String>> all = new ArrayList<>();
        for (int v = 0; v < villages; v++) {
            all.add(new ArrayList<>());
            for (int t = random.nextInt(most); t >= 0; t--) {
                all.get(v).add("i" + random.nextInt(10));
            }
        }
        for (int letter = random.nextInt(8); letter >= 0; letter--) {
            addLetter(all, letter);
        }
        StringBuilder text = new StringBuilder("v");
        for (List<String> village : all) {
            text.append(';').append("pbd".charAt(random.nextInt(3)));
            village.forEach(text::append);
        }
        return text.toString();
    }

    /** Takes the place of values; mostly sent once in one village, got in another. */
    private void addLetter(List<List<String>> all, int letter) {
        List<Integer> order = new ArrayList<>();
        for (int v = 0; v < all.size(); v++) {
            order.add(v);
        }
        Collections.shuffle(order, random);
        List<String> from = all.get(order.get(0));
        List<String> to = all.get(random.nextInt(30) == 0 ? order.get(0) : order.get(1));
        place(from, "s" + letter, 0.6);
        if (from.contains("s" + letter) && random.nextInt(5) > 0 || random.nextInt(60) == 0) {
            place(to, "g" + letter, 1.0);
        }
    }

    private void place(List<String> village, String thing, double weight) {
        int t = (int) (village.size() * random.nextDouble() * weight);
        if (village.get(t).charAt(0) == 'i') {
            village.set(t, thing);
        }
    }
}
