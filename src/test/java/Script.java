import java.lang.reflect.InvocationTargetException;
import java.lang.reflect.Method;
import java.util.ArrayList;
import java.util.List;

/**
 * Runs scripts of calls, each on a new kiln, and counts the answers that are not the due ones.
 *
 * A script is a text of entries, one a line, or several with "; " between two of them:
 *   clay(99) -> 99                the call answers this
 *   sell(0) -> throws X           the call throws exactly an X
 *   "t0*1;f1200" -> 10            each character is appended, and the last answer is this
 *   5 x clay(99) -> 495           the call is made so often, and the last answer is this
 * Lines that begin with # tell what follows.
 */
final class Script {
    private int entries;
    private int wrong;

    /** Runs a script on a new kiln. */
    void run(String name, String script) {
        SaggarKiln kiln = new SaggarKiln();
        for (String line : script.split("\n")) {
            if (line.isBlank() || line.strip().startsWith("#")) {
                continue;
            }
            for (String entry : split(line.strip())) {
                runEntry(name, kiln, entry);
            }
        }
    }

    /** Prints what there is to say, and ends the program with 1 if an answer was wrong. */
    void end(String what) {
        System.out.println(what + ": " + entries + " entries, " + wrong + " wrong");
        if (wrong != 0 || entries == 0) {
            System.exit(1);
        }
    }

    private void runEntry(String name, SaggarKiln kiln, String entry) {
        int arrow = entry.lastIndexOf(" -> ");
        if (arrow < 0) {
            throw new IllegalArgumentException("an entry without an arrow: " + entry);
        }
        String due = entry.substring(arrow + 4).strip();
        String call = entry.substring(0, arrow).strip();
        int times = 1;
        int cross = call.indexOf(" x ");
        if (cross > 0 && !call.startsWith("\"")) {
            times = Integer.parseInt(call.substring(0, cross));
            call = call.substring(cross + 3);
        }
        String answer = "";
        for (int i = 0; i < times; i++) {
            answer = call.startsWith("\"") ? appendAll(kiln, call.substring(1, call.length() - 1)) : answer(kiln, call);
        }
        entries++;
        if (!answer.equals(due)) {
            wrong++;
            System.out.println(name + ": " + entry + ", but answered " + answer);
        }
    }

    private static String appendAll(SaggarKiln kiln, String text) {
        String answer = "";
        for (char c : text.toCharArray()) {
            answer = answer(kiln, "append(" + (int) c + ")");
        }
        return answer;
    }

    /** The answer of a call, as a script writes it. */
    static String answer(SaggarKiln kiln, String call) {
        int open = call.indexOf('(');
        String name = call.substring(0, open);
        String inside = call.substring(open + 1, call.length() - 1).strip();
        String[] words = inside.isEmpty() ? new String[0] : inside.split(",");
        Method method = method(name);
        Class<?>[] types = method.getParameterTypes();
        if (types.length != words.length) {
            throw new IllegalArgumentException("so many arguments does it not take: " + call);
        }
        Object[] arguments = new Object[words.length];
        for (int i = 0; i < words.length; i++) {
            arguments[i] = argument(types[i], words[i].strip());
        }
        try {
            return String.valueOf(method.invoke(kiln, arguments));
        } catch (InvocationTargetException e) {
            return "throws " + e.getCause().getClass().getSimpleName();
        } catch (IllegalAccessException e) {
            throw new IllegalStateException(e);
        }
    }

    private static Method method(String name) {
        for (Method method : SaggarKiln.class.getMethods()) {
            if (method.getName().equals(name) && method.getDeclaringClass() == SaggarKiln.class) {
                return method;
            }
        }
        throw new IllegalArgumentException("there is no method " + name);
    }

    private static Object argument(Class<?> type, String word) {
        if (type == boolean.class) {
            return Boolean.valueOf(word);
        }
        if (type == char.class) {
            return (char) Integer.parseInt(word);
        }
        return Integer.valueOf(word);
    }

    /** Splits at each semicolon outside quotation marks. */
    private static List<String> split(String line) {
        List<String> entries = new ArrayList<>();
        StringBuilder entry = new StringBuilder();
        boolean isQuoted = false;
        for (char c : line.toCharArray()) {
            if (c == '"') {
                isQuoted = !isQuoted;
            }
            if (c == ';' && !isQuoted) {
                entries.add(entry.toString().strip());
                entry.setLength(0);
            } else {
                entry.append(c);
            }
        }
        if (!entry.toString().isBlank()) {
            entries.add(entry.toString().strip());
        }
        return entries;
    }
}
