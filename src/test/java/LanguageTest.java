import java.lang.reflect.Constructor;
import java.lang.reflect.Field;
import java.lang.reflect.Method;
import java.lang.reflect.Modifier;
import java.nio.file.Files;
import java.nio.file.Path;
import java.util.Arrays;
import java.util.Set;
import java.util.TreeSet;
import java.util.regex.Matcher;
import java.util.regex.Pattern;

/** What can be seen of LANGUAGE.md from outside: the face, and words that may not stand in the source. */
public final class LanguageTest {
    private static final Check C = new Check();
    private static final Path SOURCE = Path.of("src/main/java/QuiverDesk.java");
    private static final String[] FACE = {
        "write 1", "erase 0", "fault 0", "quiver 0", "arrow 2", "point 2", "paths 2", "put 2", "cut 1", "turn 1",
        "set 2", "shift 1", "take 1", "undo 0", "keep 1", "back 1", "turned 1", "root 2", "place 2", "between 3",
        "find 0", "sums 0", "shelf 1", "lay 1", "draw 1", "add 1", "euler 2", "drop 1", "count 1"};

    public static void main(String[] args) throws Exception {
        face();
        nestedClasses();
        words();
        methodLengths();
        C.end();
    }

    private static void face() {
        C.part("rule 1");
        Set<String> found = new TreeSet<>();
        Set<String> names = new TreeSet<>();
        for (Method m : QuiverDesk.class.getDeclaredMethods()) {
            if (Modifier.isPublic(m.getModifiers())) {
                found.add(m.getName() + " " + m.getParameterCount());
                names.add(m.getName());
                C.due(m + " gives int", m.getReturnType() == int.class ? 1 : 0, 1);
                C.due(m + " takes ints", Arrays.stream(m.getParameterTypes()).allMatch(t -> t == int.class) ? 1 : 0, 1);
                C.due(m + " is of the object", Modifier.isStatic(m.getModifiers()) ? 1 : 0, 0);
            } else {
                C.due(m + " is private", Modifier.isPrivate(m.getModifiers()) ? 1 : 0, 1);
            }
        }
        C.due("the face " + found, found.equals(new TreeSet<>(Arrays.asList(FACE))) ? 1 : 0, 1);
        for (Class<?> inside : QuiverDesk.class.getDeclaredClasses()) {
            for (Method m : inside.getDeclaredMethods()) {
                C.due(m + " bears a public name", names.contains(m.getName()) ? 1 : 0, 0);
            }
        }
        for (Method m : QuiverDesk.class.getDeclaredMethods()) {
            C.due(m + " bears a public name", !Modifier.isPublic(m.getModifiers()) && names.contains(m.getName()) ? 1 : 0, 0);
        }
        int constants = 0;
        for (Field f : QuiverDesk.class.getDeclaredFields()) {
            if (Modifier.isPublic(f.getModifiers())) {
                constants++;
                C.due(f + " is a constant", Modifier.isStatic(f.getModifiers()) && Modifier.isFinal(f.getModifiers()) ? 1 : 0, 1);
            } else {
                C.due(f + " is private", Modifier.isPrivate(f.getModifiers()) ? 1 : 0, 1);
            }
        }
        C.due("constants", constants, 9);
        Constructor<?>[] constructors = QuiverDesk.class.getDeclaredConstructors();
        C.due("constructors", constructors.length, 1);
        C.due("public", Modifier.isPublic(constructors[0].getModifiers()) ? 1 : 0, 1);
        C.due("public final", QuiverDesk.class.getModifiers(), Modifier.PUBLIC | Modifier.FINAL);
    }

    private static void nestedClasses() {
        C.part("rules 2, 11");
        Class<?>[] inside = QuiverDesk.class.getDeclaredClasses();
        C.due("twelve classes at most", inside.length < 12 ? 1 : 0, 1);
        for (Class<?> c : inside) {
            C.due(c + " is static", Modifier.isStatic(c.getModifiers()) ? 1 : 0, 1);
            long fields = Arrays.stream(c.getDeclaredFields()).filter(f -> !Modifier.isStatic(f.getModifiers())).count();
            C.due(c + " has few fields", fields <= 20 ? 1 : 0, 1);
        }
    }

    private static String code() throws Exception {
        return Files.readString(SOURCE)
            .replaceAll("(?s)/\\*.*?\\*/", " ")
            .replaceAll("//[^\n]*", " ");
    }

    private static void words() throws Exception {
        C.part("rules 3 to 13");
        String code = code();
        String[] banned = {"throw", "throws", "try", "catch", "finally", "synchronized", "assert", "import", "package",
            "double", "float", "Object", "Exception", "Thread", "System\\.(?!arraycopy)", "Random", "yield", "var",
            "volatile", "transient", "native", "hashCode", "equals", "toString", "\\w+Exact", "->", "::", "@\\w+"};
        for (String word : banned) {
            String edge = Character.isLetter(word.charAt(0)) ? "\\b" : "";
            Matcher m = Pattern.compile(edge + word + (word.matches("\\w+") ? "\\b" : "")).matcher(code);
            C.due("'" + word + "' stands in the source", m.find() ? 1 : 0, 0);
        }
        C.due("signs beyond 127", code.chars().anyMatch(c -> c > 127) ? 1 : 0, 0);
        Matcher statics = Pattern.compile("\\bstatic (?!final |int \\w+\\(|boolean \\w+\\(|void \\w+\\()").matcher(code);
        C.due("a static field that is not final", statics.find() ? 1 : 0, 0);
        // what makes rows or objects stands in fields and constructors alone
        Matcher made = Pattern.compile("(?m)^(?!\\s+(private )?final ).*\\bnew (?!Quiver\\(\\)|Shelf\\(\\)).*$").matcher(code);
        C.due("something is made in a call", made.find() ? 1 : 0, 0);
    }

    private static void methodLengths() throws Exception {
        C.part("rule 11");
        int start = -1;
        int depthThere = 0;
        int depth = 0;
        int line = 0;
        for (String text : Files.readString(SOURCE).split("\n")) {
            line++;
            if (start < 0 && text.matches("\\s+[\\w\\[\\] ]*\\w+\\(.*\\) \\{") && !text.matches(".*\\b(if|for|while|switch|else)\\b.*")) {
                start = line;
                depthThere = depth;
                C.due("parameters at line " + line, text.split(",").length <= 7 ? 1 : 0, 1);
            }
            for (char c : text.toCharArray()) {
                depth += c == '{' ? 1 : c == '}' ? -1 : 0;
            }
            if (start >= 0 && depth == depthThere && line > start) {
                C.due("the method at line " + start + " is short", line - start < 60 ? 1 : 0, 1);
                start = -1;
            }
        }
    }
}
