import java.util.ArrayList;
import java.util.List;

/**
 * "A method that throws an exception leaves the state unchanged unless its documentation says otherwise." (all promises
 * with an exception): for each exception of each method, a kiln on which the call was tried answers to all that can be
 * asked as one does on which it was not, also after each undo.
 */
public final class UnchangedTest {
    /** Four saggars, three of them in the kiln; seven wares, of all six states; two orders, and a refusal of the second. */
    private static final String BUSY = "clay(40); cast(1, 7, 50); glaze(0, 3, 1); glaze(1, 3, 1); saggar(); saggar(); saggar();"
            + " saggar(); stack(0, -1, 0); stack(1, 0, 0); stack(2, -1, 3); put(0, 0); put(1, 0); put(2, 1); fire(1240);"
            + " empty(0); order(0, 1, 0, 0, 3, false); order(0, 2, 1, 0, 3, true); sell(0); put(4, 0); fire(1000); empty(0);"
            + " put(3, 0); put(5, 3); save(); !sell(1)";
    /** As many as there can be of all. */
    private static final String FULL = "set(2, 5); clay(60); cast(1, 20, 50); cast(1, 20, 50); cast(1, 20, 50); saggar(); saggar();"
            + " saggar(); saggar(); saggar(); saggar(); saggar(); saggar(); order(1, 0, 0, 0, 0, true); order(1, 0, 0, 0, 0, true);"
            + " order(1, 0, 0, 0, 0, true); order(1, 0, 0, 0, 0, true); order(1, 0, 0, 0, 0, true); order(1, 0, 0, 0, 0, true);"
            + " stack(0, -1, 0); stack(1, 0, 0); put(0, 1); put(1, 1)";

    /** All the clay that there can be, but for 1. */
    private static final String CLAY = "clay(99); clay(99); clay(99); clay(99); clay(99); clay(99); clay(99); clay(99); clay(99);"
            + " clay(99); clay(8)";

    private static int wrong;
    private static int cases;

    public static void main(String[] args) {
        String index = "IndexOutOfBoundsException";
        String argument = "IllegalArgumentException";
        String refused = "UnsupportedOperationException";
        String state = "IllegalStateException";
        String none = "NoSuchElementException";
        String arithmetic = "ArithmeticException";
        check(BUSY, argument, "set(0, 10)", "set(3, 5)", "clay(0)", "clay(100)", "cast(4, 1, 50)", "cast(1, 21, 50)", "cast(1, 1, 61)",
                "glaze(6, 4, 1)", "glaze(6, 0, 10)", "stack(3, 3, 0)", "fire(999)", "fire(1401)", "order(7, 1, 1, 1, 0, true)",
                "order(0, 0, 0, 0, 0, true)", "order(1, 1, 1, 1, 4, true)", "ware(0, 8)", "saggarOf(0, 7)", "orderOf(0, 7)",
                "store(4, 0, true)", "heatAt(0, 999)", "wouldBe(0, 2001)", "refusal(3, true)", "account(19)", "read()");
        check(BUSY, index, "glaze(7, 0, 1)", "stack(4, -1, 1)", "stack(3, 4, 1)", "stack(3, -1, 4)", "unstack(4)", "put(7, 3)", "put(6, 4)",
                "empty(4)", "sell(2)", "ware(7, 0)", "saggarOf(4, 0)", "load(4)", "loadAgain(4)", "orderOf(2, 0)", "sign(7)",
                "heatAt(4, 1200)", "wouldBe(7, 1200)", "sets(2)", "setsAgain(2)");
        check(BUSY, refused, "cast(3, 20, 50)", "glaze(0, 0, 1)", "glaze(3, 0, 1)", "stack(0, -1, 1)", "stack(1, 3, 0)", "stack(3, -1, 3)",
                "stack(3, 0, 0)", "unstack(0)", "unstack(3)", "put(3, 3)", "put(2, 3)", "empty(2)", "sell(1)");
        check(BUSY, none, "heatAt(3, 1200)", "refusal(2, true)", "refusal(2, false)");
        check("clay(9)", refused, "cast(3, 3, 50)", "fire(1200)");
        check("clay(9)", none, "bestHeat(true)", "refusal(0, false)");
        check("clay(9)", arithmetic, "firstShare()", "meanLoad()");
        check("clay(9)", state, "restore()");
        check("", state, "undo()", "restore()");
        check("clay(9)" + "; append(102)".repeat(60), state, "append(48)");
        check(CLAY, refused, "clay(2)", "clay(99)");
        check(FULL, refused, "cast(1, 1, 50)", "saggar()", "order(1, 1, 1, 1, 0, true)", "stack(2, 1, 0)", "put(2, 1)", "sell(0)");
        checkText(BUSY, refused, "t1*1;g6=31;p6@3;p7@3;e3;f1240;e0;e2", "s0;s0", "s1", "t1*9;t1*9;t1*20", "e3;p6@3;p0@3", "e9", "f1399;f1399");
        checkText(BUSY, argument, "t1*1;", "t1*1;x", "e3;e", ";e3", "f124");
        checkAppend();
        System.out.println("unchanged: " + cases + " cases, " + wrong + " wrong");
        if (wrong != 0 || cases == 0) {
            System.exit(1);
        }
    }

    private static void check(String setup, String exception, String... calls) {
        for (String call : calls) {
            compare(setup, List.of(call), exception);
        }
    }

    /** A refused text empties the buffer, as its documentation says, and changes nothing else. */
    private static void checkText(String setup, String exception, String... texts) {
        for (String text : texts) {
            List<String> calls = new ArrayList<>();
            text.chars().forEach(c -> calls.add("append(" + c + ")"));
            calls.add("read()");
            compare(setup, calls, exception);
        }
    }

    private static void checkAppend() {
        SaggarKiln kiln = new SaggarKiln();
        for (int i = 0; i < 59; i++) {
            kiln.append("f1250;".charAt(i % 6));
        }
        kiln.append('q');
        expect("a full buffer", Script.answer(kiln, "append(48)"), "throws IllegalStateException");
        expect("a full buffer", Script.answer(kiln, "account(17)"), "60");
        expect("a full buffer", Script.answer(kiln, "read()"), "throws IllegalArgumentException");
        expect("a full buffer", Script.answer(kiln, "faultPosition()"), "59");
    }

    private static void compare(String setup, List<String> calls, String exception) {
        cases++;
        for (int undos = 0; undos <= 8; undos++) {
            SaggarKiln tried = made(setup);
            SaggarKiln quiet = made(setup);
            String last = "";
            for (String call : calls) {
                last = Script.answer(tried, call);
            }
            String what = String.join(" ", calls) + " after " + setup;
            expect(what, last, "throws " + exception);
            for (int i = 0; i < undos; i++) {
                expect(what + ", undo " + i, Script.answer(tried, "undo()"), Script.answer(quiet, "undo()"));
            }
            expect(what + ", " + undos + " undone", all(tried, exception), all(quiet, exception));
        }
        SaggarKiln tried = made(setup);
        SaggarKiln quiet = made(setup);
        calls.forEach(call -> Script.answer(tried, call));
        expect(String.join(" ", calls) + ", restored", Script.answer(tried, "restore()"), Script.answer(quiet, "restore()"));
        expect(String.join(" ", calls) + ", restored", all(tried, exception), all(quiet, exception));
    }

    /** A kiln after the calls of a setup; those that begin with an exclamation mark are refused. */
    private static SaggarKiln made(String setup) {
        SaggarKiln kiln = new SaggarKiln();
        for (String call : setup.isEmpty() ? new String[0] : setup.split("; ?")) {
            boolean isRefused = call.startsWith("!");
            String answer = Script.answer(kiln, call.substring(isRefused ? 1 : 0));
            expect("setup " + call, answer.startsWith("throws") != isRefused ? answer : "", "");
        }
        return kiln;
    }

    /** All that can be asked of a kiln, but for the reasons after a refusal and the fault position, which only read sets. */
    private static String all(SaggarKiln kiln, String exception) {
        StringBuilder answers = new StringBuilder();
        for (int what = 0; what <= 18; what++) {
            ask(answers, kiln, "account(" + what + ")");
        }
        int wares = Math.min(kiln.account(0), 20);
        for (int ware = 0; ware < wares; ware++) {
            for (int what = 0; what <= 7; what++) {
                ask(answers, kiln, "ware(" + ware + ", " + what + ")");
            }
        }
        for (int saggar = 0; saggar < kiln.account(7); saggar++) {
            for (int what = 0; what <= 6; what++) {
                ask(answers, kiln, "saggarOf(" + saggar + ", " + what + ")");
            }
            ask(answers, kiln, "load(" + saggar + ")");
        }
        for (int order = 0; order < kiln.account(9); order++) {
            for (int what = 0; what <= 6; what++) {
                ask(answers, kiln, "orderOf(" + order + ", " + what + ")");
            }
            ask(answers, kiln, "sets(" + order + ")");
        }
        if (!exception.equals("UnsupportedOperationException")) {
            for (int depth = 0; depth <= 2; depth++) {
                ask(answers, kiln, "refusal(" + depth + ", false)");
                ask(answers, kiln, "refusal(" + depth + ", true)");
            }
        }
        ask(answers, kiln, "bestHeat(false)");
        ask(answers, kiln, "firstShare()");
        ask(answers, kiln, "meanLoad()");
        ask(answers, kiln, "isBalanced()");
        return answers.toString();
    }

    private static void ask(StringBuilder answers, SaggarKiln kiln, String call) {
        answers.append(call).append(' ').append(Script.answer(kiln, call)).append('\n');
    }

    /** Compares answers, of which each stands in a line; prints the first one that differs. */
    private static void expect(String what, String answer, String due) {
        if (answer.equals(due)) {
            return;
        }
        wrong++;
        String[] got = answer.split("\n");
        String[] wanted = due.split("\n");
        int line = 0;
        while (line < got.length - 1 && line < wanted.length - 1 && got[line].equals(wanted[line])) {
            line++;
        }
        System.out.println(what + ": " + got[line] + ", due is " + wanted[line]);
    }
}
