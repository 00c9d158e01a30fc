import java.lang.reflect.InvocationTargetException;
import java.lang.reflect.Method;
import java.util.ArrayList;
import java.util.List;

/**
 * A run of calls on a new object, told in lines, so that a test reads like the document's own words.
 * Steps stand behind one another with | between or on lines of their own:
 *   put 0 1 = 0          a call, and the answer that is due (a number, or a constant's name)
 *   set 0 5              a call whose answer is not looked at
 *   tell "row" * 3       letters written; each has to be taken
 *   reads "row 1" = 5    erase, then the letters, then fault()
 *   x = 1 2 3            x at every point
 *   arrows = 01 12       every arrow, from and to
 */
final class Scene {
    /** What later calls answer is free, so no test may ask for it. */
    private static final int MOST_CALLS = 512;

    private final QuiverDesk desk = new QuiverDesk();
    private int calls = 0;

    static void play(Check check, String sentence, String lines) {
        check.part(sentence);
        new Scene().go(check, lines);
    }

    /** Without a check, answers are not looked at. */
    Scene go(Check check, String lines) {
        for (String line : lines.split("\n")) {
            for (String step : line.split("\\|")) {
                if (!step.isBlank()) {
                    take(check, step.strip());
                }
            }
        }
        return this;
    }

    private void take(Check check, String step) {
        int sign = step.lastIndexOf('=');
        String call = sign < 0 ? step : step.substring(0, sign).strip();
        String due = sign < 0 ? null : step.substring(sign + 1).strip();
        if (call.equals("x") || call.equals("arrows")) {
            same(check, step, call.equals("x") ? row() : arrows(), due);
        } else if (call.startsWith("tell ")) {
            tell(call.substring(5));
        } else {
            int got = call.startsWith("reads ") ? reads(call.substring(6)) : call(call);
            if (due != null && check != null) {
                check.due(step, got, number(due));
            }
        }
    }

    private static void same(Check check, String step, String got, String due) {
        if (check != null) {
            check.due(step + ", found " + got, got.equals(due) ? 1 : 0, 1);
        }
    }

    String row() {
        List<String> found = new ArrayList<>();
        for (int p = 0; call("point", p, 0) != QuiverDesk.UNKNOWN; p++) {
            found.add(String.valueOf(call("point", p, 0)));
        }
        return String.join(" ", found);
    }

    String arrows() {
        List<String> found = new ArrayList<>();
        for (int a = 0; call("arrow", a, 0) != QuiverDesk.UNKNOWN; a++) {
            found.add(call("arrow", a, 0) + "" + call("arrow", a, 1));
        }
        return String.join(" ", found);
    }

    private int reads(String quoted) {
        call("erase");
        tell(quoted);
        return call("fault");
    }

    private void tell(String quoted) {
        int end = quoted.lastIndexOf('"');
        int times = end == quoted.length() - 1 ? 1 : Integer.parseInt(quoted.substring(end + 1).replace("*", "").strip());
        String letters = quoted.substring(1, end).repeat(times);
        for (int i = 0; i < letters.length(); i++) {
            if (call("write", letters.charAt(i)) < 0) {
                throw new IllegalStateException("letter " + i + " is refused: " + quoted);
            }
        }
    }

    int call(String told) {
        String[] words = told.split(" +");
        int[] numbers = new int[words.length - 1];
        for (int i = 0; i < numbers.length; i++) {
            numbers[i] = number(words[i + 1]);
        }
        return call(words[0], numbers);
    }

    int call(String name, int... numbers) {
        calls++;
        if (calls > MOST_CALLS) {
            throw new IllegalStateException("more than " + MOST_CALLS + " calls, at " + name);
        }
        Object[] boxed = new Object[numbers.length];
        for (int i = 0; i < boxed.length; i++) {
            boxed[i] = numbers[i];
        }
        for (Method m : QuiverDesk.class.getMethods()) {
            if (m.getName().equals(name) && m.getParameterCount() == boxed.length && m.getReturnType() == int.class) {
                return invoke(m, boxed);
            }
        }
        throw new IllegalStateException("no such call: " + name);
    }

    private int invoke(Method m, Object[] boxed) {
        try {
            return (int) m.invoke(desk, boxed);
        } catch (InvocationTargetException | IllegalAccessException e) {
            throw new IllegalStateException("a call threw: " + m.getName(), e);
        }
    }

    static int number(String word) {
        switch (word) {
            case "LEAST":
                return Integer.MIN_VALUE;
            case "MOST":
                return Integer.MAX_VALUE;
            default:
                return Character.isLetter(word.charAt(0)) ? constant(word) : Integer.parseInt(word);
        }
    }

    private static int constant(String name) {
        try {
            return QuiverDesk.class.getField(name).getInt(null);
        } catch (ReflectiveOperationException e) {
            throw new IllegalStateException("no such constant: " + name, e);
        }
    }
}
