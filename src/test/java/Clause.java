import java.io.IOException;
import java.nio.file.Files;
import java.nio.file.Path;
import java.util.Map;
import java.util.TreeMap;
import java.util.regex.Matcher;
import java.util.regex.Pattern;

/**
 * Words of the document and the checks that are for them. Words that the document does not have are wrong, and so is
 * a document that has words for which there is no check.
 */
final class Clause {
    private static final Path DOCUMENT = Path.of("../shared/DOC.md");
    private static final Map<String, String> SECTIONS = new TreeMap<>();
    private static final Map<String, boolean[]> CHECKED = new TreeMap<>();
    private static String name = "";
    private static int checks = 1;

    private Clause() {
    }

    /** Takes the sections that promise something: Terms, and the 30 promises without their headings. */
    static void open() throws IOException {
        for (String section : Files.readString(DOCUMENT).split("\n## ")) {
            int end = section.indexOf('\n');
            Matcher promise = Pattern.compile("(Promise \\d+): .*").matcher(section.substring(0, Math.max(end, 0)));
            if (promise.matches()) {
                take(promise.group(1), section.substring(section.indexOf("`:") + 2));
            }
            if (section.startsWith("Terms\n")) {
                take("Terms", section.substring(end).replaceAll("(?m)^Ahead of the calls.*$", "")
                    .replaceAll("```(text)?", "").replaceAll("==== \\d", ""));
            }
            if (section.contains("An object is used")) {
                take("What it is", section.substring(section.indexOf("An object is used")));
            }
        }
        Checks.due("sections", SECTIONS.size(), 32);
    }

    private static void take(String section, String text) {
        String plain = text.replaceAll("\\s+", " ").trim();
        SECTIONS.put(section, plain);
        CHECKED.put(section, new boolean[plain.length()]);
    }

    static void promise(int number, String words) {
        begin("Promise " + number, words);
    }

    static void terms(String words) {
        begin("Terms", words);
    }

    static void whatItIs(String words) {
        begin("What it is", words);
    }

    private static void begin(String section, String words) {
        end();
        name = section + ", \"" + words + "\"";
        checks = 0;
        Checks.about(name + ": ");
        String text = SECTIONS.getOrDefault(section, "");
        int at = placeOf(section, text, words);
        if (at < 0) {
            Checks.wrong("no such words in the document");
            return;
        }
        for (int k = at; k < at + words.length(); k++) {
            CHECKED.get(section)[k] = true;
        }
    }

    /** The first place of the words that no check is for yet, or just their first. */
    private static int placeOf(String section, String text, String words) {
        for (int at = text.indexOf(words); at >= 0; at = text.indexOf(words, at + 1)) {
            for (int k = at; k < at + words.length(); k++) {
                if (!CHECKED.get(section)[k]) {
                    return at;
                }
            }
        }
        return text.indexOf(words);
    }

    private static void end() {
        if (checks == 0) {
            Checks.wrong("no check is for it");
        }
        checks = 1;
        Checks.about("");
    }

    /** Behind the last check: all words of the document have had one. */
    static void close() {
        end();
        for (String section : SECTIONS.keySet()) {
            StringBuilder left = new StringBuilder();
            boolean[] checked = CHECKED.get(section);
            for (int k = 0; k < checked.length; k++) {
                left.append(checked[k] ? ' ' : SECTIONS.get(section).charAt(k));
            }
            String words = left.toString().replaceAll("[\\s.,;:()]+", " ").trim();
            if (!words.isEmpty()) {
                Checks.wrong(section + ": no check is for: " + words);
            }
        }
    }

    static void due(String what, long got, long want) {
        checks++;
        Checks.due(what, got, want);
    }

    static void due(VillageCuts x, String call, long want) {
        due(call, Calls.told(x, call), want);
    }
}
