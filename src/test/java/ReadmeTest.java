import java.io.IOException;
import java.lang.reflect.Field;
import java.lang.reflect.Method;
import java.lang.reflect.Modifier;
import java.net.URL;
import java.net.URLClassLoader;
import java.nio.file.DirectoryStream;
import java.nio.file.Files;
import java.nio.file.Path;
import java.util.Set;
import java.util.TreeSet;
import java.util.regex.Matcher;
import java.util.regex.Pattern;

/** What README.md tells of the use of the class: its calls are compiled and run as they stand there. */
public final class ReadmeTest {
    private static final Check C = new Check();
    private static final Pattern BLOCK = Pattern.compile("(?s)```java\n(.*?)```");
    private static final Pattern CALL = Pattern.compile("(desk\\.\\w+\\([^;]*\\));\\s*// (-?\\d+|[A-Z]+)\\b.*");
    private static final Pattern TABLE_ROW = Pattern.compile("(?m)^\\| `(\\w+)(\\(([^)]*)\\))?` \\|");
    private static final Pattern TEST = Pattern.compile("(?m)^- `(\\w+Test)`:");

    /** How often a call stands in the blocks with its answer; without any, nothing would be looked at. */
    private static int told = 0;

    public static void main(String[] args) throws Exception {
        String page = Files.readString(Path.of("README.md"));
        calls(page);
        tables(page);
        tests(page);
        C.end();
    }

    /** Called by the program that is made of the blocks. */
    public static void due(String call, int got, int want) {
        C.due(call, got, want);
    }

    private static void calls(String page) throws Exception {
        C.part("README, its calls");
        String program = program(page);
        C.due("many calls are told", told >= 40 ? 1 : 0, 1);
        Path out = Files.createTempDirectory("readme");
        try {
            run(program, out);
        } finally {
            remove(out);
        }
    }

    private static String program(String page) {
        StringBuilder b = new StringBuilder("public final class Shown {\n    public static void run() {\n");
        Matcher blocks = BLOCK.matcher(page);
        while (blocks.find()) {
            for (String line : blocks.group(1).split("\n")) {
                b.append(statement(line)).append('\n');
            }
        }
        return b.append("    }\n}\n").toString();
    }

    /** A call at the beginning of a line has to have its answer behind it; all else stays as it is. */
    private static String statement(String line) {
        Matcher call = CALL.matcher(line);
        if (call.matches()) {
            told++;
            String want = call.group(2);
            String constant = Character.isLetter(want.charAt(0)) ? "QuiverDesk." + want : want;
            return "ReadmeTest.due(\"" + call.group(1) + "\", " + call.group(1) + ", " + constant + ");";
        }
        C.due("an answer stands behind " + line, line.startsWith("desk.") ? 0 : 1, 1);
        return line;
    }

    private static void run(String program, Path out) throws Exception {
        Path source = Files.writeString(out.resolve("Shown.java"), program);
        // the same javac that .ci/run calls; a java without a compiler of its own may run this test
        ProcessBuilder javac = new ProcessBuilder("javac", "-cp", System.getProperty("java.class.path"), "-d", out.toString(), source.toString());
        int failed = javac.inheritIO().start().waitFor();
        C.due("the blocks compile", failed, 0);
        if (failed == 0) {
            try (URLClassLoader loader = new URLClassLoader(new URL[] {out.toUri().toURL()}, ReadmeTest.class.getClassLoader())) {
                loader.loadClass("Shown").getMethod("run").invoke(null);
            }
        }
    }

    private static void remove(Path directory) throws IOException {
        try (DirectoryStream<Path> files = Files.newDirectoryStream(directory)) {
            for (Path file : files) {
                Files.delete(file);
            }
        }
        Files.delete(directory);
    }

    private static void tables(String page) {
        C.part("README, its tables");
        Set<String> calls = new TreeSet<>();
        Set<String> refusals = new TreeSet<>();
        Matcher row = TABLE_ROW.matcher(page);
        while (row.find()) {
            if (row.group(2) == null) {
                refusals.add(row.group(1));
            } else {
                calls.add(row.group(1) + " " + (row.group(3).isEmpty() ? 0 : row.group(3).split(",").length));
            }
        }
        same("every call", calls, callsOfClass());
        same("every refusal", refusals, refusalsOfClass());
    }

    private static Set<String> callsOfClass() {
        Set<String> found = new TreeSet<>();
        for (Method m : QuiverDesk.class.getDeclaredMethods()) {
            if (Modifier.isPublic(m.getModifiers())) {
                found.add(m.getName() + " " + m.getParameterCount());
            }
        }
        return found;
    }

    private static Set<String> refusalsOfClass() {
        Set<String> found = new TreeSet<>();
        for (Field f : QuiverDesk.class.getFields()) {
            if (!f.getName().equals("NONE")) {
                found.add(f.getName());
            }
        }
        return found;
    }

    private static void tests(String page) throws IOException {
        C.part("README, its tests");
        Set<String> named = new TreeSet<>();
        Matcher test = TEST.matcher(page);
        while (test.find()) {
            named.add(test.group(1));
        }
        Set<String> there = new TreeSet<>();
        try (DirectoryStream<Path> files = Files.newDirectoryStream(Path.of("src/test/java"), "*Test.java")) {
            for (Path file : files) {
                there.add(file.getFileName().toString().replace(".java", ""));
            }
        }
        same("every test", named, there);
    }

    private static void same(String what, Set<String> told, Set<String> due) {
        C.due(what + ", told " + told + ", there are " + due, told.equals(due) ? 1 : 0, 1);
    }
}
