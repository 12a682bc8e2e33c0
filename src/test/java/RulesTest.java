import java.io.IOException;
import java.lang.reflect.Field;
import java.lang.reflect.Method;
import java.lang.reflect.Modifier;
import java.nio.file.Files;
import java.nio.file.Path;
import java.util.Arrays;
import java.util.HashSet;
import java.util.Set;
import java.util.TreeSet;
import java.util.regex.Matcher;
import java.util.regex.Pattern;

/** The face of the document, and the rules of LANGUAGE.md that can be seen from outside or in the text. */
public final class RulesTest {
    private static final Path SOURCE = Path.of("src/main/java/VillageCuts.java");
    private static final Path DOCUMENT = Path.of("../shared/DOC.md");

    public static void main(String[] args) throws IOException {
        String code = Files.readString(SOURCE).replaceAll("(?s)/\\*.*?\\*/", "").replaceAll("//[^\n]*", "");
        face(Files.readString(DOCUMENT));
        constants();
        members();
        nested();
        words(code);
        library(code);
        lengths(code);
        Checks.end();
    }

    private static void holds(String rule, boolean is) {
        Checks.due(rule, is ? 1 : 0, 1);
    }

    private static String told(Method m) {
        StringBuilder text = new StringBuilder(m.getReturnType() + " " + m.getName() + "(");
        for (int k = 0; k < m.getParameterCount(); k++) {
            text.append(k == 0 ? "" : ", ").append(m.getParameterTypes()[k]);
        }
        return text.append(")").toString();
    }

    private static void face(String document) {
        Set<String> due = new TreeSet<>();
        Matcher lines = Pattern.compile("    public (int|long) (\\w+)\\(([^)]*)\\);").matcher(document);
        while (lines.find()) {
            String parameters = lines.group(3).replaceAll("(\\w+) \\w+", "$1");
            due.add(lines.group(1) + " " + lines.group(2) + "(" + parameters + ")");
        }
        Set<String> is = new TreeSet<>();
        for (Method m : VillageCuts.class.getDeclaredMethods()) {
            if (Modifier.isPublic(m.getModifiers())) {
                is.add(told(m));
            }
        }
        holds("29 calls", due.size() == 29);
        holds("the face is " + due + ", not " + is, due.equals(is));
        holds("public and final", VillageCuts.class.getModifiers() == (Modifier.PUBLIC | Modifier.FINAL));
        holds("one constructor, without parameters, public", VillageCuts.class.getDeclaredConstructors().length == 1
            && VillageCuts.class.getConstructors().length == 1
            && VillageCuts.class.getConstructors()[0].getParameterCount() == 0);
    }

    private static void constants() {
        Checks.due("UNKNOWN", VillageCuts.UNKNOWN, -1);
        Checks.due("OUTSIDE", VillageCuts.OUTSIDE, -2);
        Checks.due("STATE", VillageCuts.STATE, -3);
        Checks.due("FULL", VillageCuts.FULL, -4);
        Checks.due("NONE", VillageCuts.NONE, -9);
        Checks.due("LOST", VillageCuts.LOST, Long.MIN_VALUE);
    }

    private static void members() {
        Set<String> constants = Set.of("UNKNOWN", "OUTSIDE", "STATE", "FULL", "NONE", "LOST");
        Set<String> names = new HashSet<>();
        for (Method m : VillageCuts.class.getDeclaredMethods()) {
            if (Modifier.isPublic(m.getModifiers())) {
                names.add(m.getName());
            }
        }
        for (Method m : VillageCuts.class.getDeclaredMethods()) {
            boolean isPublic = Modifier.isPublic(m.getModifiers());
            holds("private: " + m, isPublic || Modifier.isPrivate(m.getModifiers()));
            holds("a name of its own: " + m, isPublic || !names.contains(m.getName()));
        }
        for (Field f : VillageCuts.class.getDeclaredFields()) {
            holds("private: " + f, Modifier.isPrivate(f.getModifiers()) || constants.contains(f.getName()));
        }
        staticFieldsAreFinal(VillageCuts.class);
        for (Class<?> c : VillageCuts.class.getDeclaredClasses()) {
            staticFieldsAreFinal(c);
            for (Method m : c.getDeclaredMethods()) {
                holds("a name of its own: " + m, !names.contains(m.getName()));
            }
        }
    }

    private static void staticFieldsAreFinal(Class<?> c) {
        int own = 0;
        for (Field f : c.getDeclaredFields()) {
            boolean isStatic = Modifier.isStatic(f.getModifiers());
            holds("final: " + f, !isStatic || Modifier.isFinal(f.getModifiers()));
            own += isStatic ? 0 : 1;
        }
        holds("twenty fields at most: " + c, own <= 20);
    }

    private static void nested() {
        Class<?>[] classes = VillageCuts.class.getDeclaredClasses();
        holds("twelve classes at most", classes.length + 1 <= 12);
        for (Class<?> c : classes) {
            holds("static: " + c, Modifier.isStatic(c.getModifiers()));
            holds("not public: " + c, !Modifier.isPublic(c.getModifiers()) && !Modifier.isProtected(c.getModifiers()));
            holds("none inside: " + c, c.getDeclaredClasses().length == 0);
        }
    }

    private static void words(String code) {
        String[] never = {"throw", "throws", "try", "catch", "finally", "synchronized", "assert", "volatile", "native",
            "package", "protected", "var", "yield", "equals", "hashCode", "toString", "Object", "double", "float"};
        for (String word : never) {
            holds("no " + word, !Pattern.compile("\\b" + word + "\\b").matcher(code).find());
        }
        holds("no lambda", !code.contains("->"));
        holds("no method reference", !code.contains("::"));
        holds("no text", !code.contains("\""));
        holds("no static block", !Pattern.compile("\\bstatic\\s*\\{").matcher(code).find());
        holds("no anonymous class", !Pattern.compile("new \\w+\\([^()]*\\)\\s*\\{").matcher(code).find());
        holds("no endless loop", !Pattern.compile("while \\(true\\)|for \\(;;").matcher(code).find());
        holds("plain signs", code.chars().allMatch(c -> c == '\n' || c >= 32 && c < 127));
    }

    private static void library(String code) {
        Set<String> allowed = Set.of("Math.max", "Math.min", "Arrays.fill", "System.arraycopy", "Long.MIN_VALUE");
        Matcher calls = Pattern.compile("\\b(Math|Arrays|System|Integer|Long|List|ArrayList)\\.(\\w+)").matcher(code);
        while (calls.find()) {
            holds("allowed: " + calls.group(), allowed.contains(calls.group()));
        }
        Matcher imports = Pattern.compile("import ([^;]+);").matcher(code);
        while (imports.find()) {
            holds("allowed: " + imports.group(), imports.group(1).equals("java.util.Arrays"));
        }
    }

    private static void lengths(String code) {
        String[] lines = code.split("\n");
        int begin = 0;
        Pattern head = Pattern.compile("^( {4}| {8})[\\w@][^;=]*\\(([^()]*)\\) \\{$");
        for (int k = 0; k < lines.length; k++) {
            Matcher m = head.matcher(lines[k]);
            if (m.matches()) {
                begin = k;
                holds("seven parameters at most: " + lines[k], Arrays.stream(m.group(2).split(",")).count() <= 7);
            }
            if (lines[k].equals("    }") || lines[k].equals("        }")) {
                holds("short: " + lines[begin], k - begin <= 60);
            }
        }
    }
}
