/** Long runs of calls, made by counting alone, on which the kiln and the model must answer alike. */
public final class ModelTest {
    private static final int RUNS = 150;
    private static final int CALLS = 512;

    private static int run;
    private static long seed;
    private static int wrong;
    private static int answers;
    private static int refused;

    public static void main(String[] args) {
        for (run = 0; run < RUNS && wrong < 20; run++) {
            seed = 1000003L * run + 17;
            runOnce();
        }
        System.out.println("model: " + answers + " answers, " + refused + " exceptions, " + wrong + " wrong");
        if (wrong != 0) {
            System.exit(1);
        }
    }

    /** The next number from 0 on, below the bound. */
    private static int next(int bound) {
        seed = seed * 6364136223846793005L + 1442695040888963407L;
        return (int) ((seed >>> 33) % bound);
    }

    private static int next(int least, int most) {
        return least + next(most - least + 1);
    }

    /** A number of this range, or seldom one somewhat or far beside it. */
    private static int about(int least, int most) {
        switch (next(40)) {
            case 0: return least - 1;
            case 1: return most + 1;
            case 2: return next(2) == 0 ? Integer.MIN_VALUE : Integer.MAX_VALUE;
            default: return next(least, most);
        }
    }

    private static void runOnce() {
        SaggarKiln kiln = new SaggarKiln();
        Model model = new Model();
        for (int call = 0; call < CALLS && wrong < 20; call++) {
            String where = "run " + run + ", call " + call;
            nextCall(where, kiln, model);
            if (call % 64 == 63) {
                compareAll("after " + where, kiln, model);
            }
        }
    }

    private static void compare(String where, SaggarKiln kiln, Model model, String name, int... numbers) {
        StringBuilder call = new StringBuilder(name).append('(');
        boolean hasBoolean = "order store bestHeat refusal".contains(name);
        for (int i = 0; i < numbers.length; i++) {
            boolean isBoolean = hasBoolean && i == numbers.length - 1;
            call.append(i > 0 ? ", " : "").append(isBoolean ? String.valueOf(numbers[i] == 1) : String.valueOf(numbers[i]));
        }
        String got = Script.answer(kiln, call.append(')').toString());
        String due = model.answer(name, numbers);
        answers++;
        refused += due.startsWith("throws") ? 1 : 0;
        if (!got.equals(due)) {
            wrong++;
            System.out.println(where + ": " + call + " answered " + got + ", the model " + due);
        }
    }

    /** A ware, most often one in the state, if there is one. */
    private static int wareIn(Model model, int state) {
        int count = Integer.parseInt(model.answer("account", 0));
        int first = next(Math.max(1, count));
        for (int i = 0; i < count && next(20) > 0; i++) {
            int ware = (first + i) % count;
            if (model.answer("ware", ware, 2).equals(String.valueOf(state))) {
                return ware;
            }
        }
        return about(0, count);
    }

    private static int wareToPut(Model model) {
        int ware = wareIn(model, 0);
        for (int i = 0; i < 8 && model.answer("ware", ware, 3).equals("-1"); i++) {
            ware = wareIn(model, 0);
        }
        return ware;
    }

    private static int saggar(Model model) {
        return about(0, Math.max(0, Integer.parseInt(model.answer("account", 7)) - 1));
    }

    private static int order(Model model) {
        return about(0, Math.max(0, Integer.parseInt(model.answer("account", 9)) - 1));
    }

    /** Most often the glaze of the run, so that there are sets. */
    private static int glaze() {
        return next(3) > 0 ? run % 4 : about(0, 3);
    }

    private static void nextCall(String where, SaggarKiln kiln, Model model) {
        switch (next(40)) {
            case 0: compare(where, kiln, model, "set", next(2) == 0 ? 2 : about(0, 2), setting()); break;
            case 1: case 2: compare(where, kiln, model, "clay", about(1, 99)); break;
            case 3: case 4: compare(where, kiln, model, "cast", about(0, 3), about(1, next(9) == 0 ? 20 : 3), about(30, 60)); break;
            case 5: case 6: case 7: case 8: case 9:
                compare(where, kiln, model, "glaze", wareIn(model, 0), glaze(), about(1, next(2) == 0 ? 3 : 9)); break;
            case 10: case 11: compare(where, kiln, model, "saggar"); break;
            case 12: case 13: case 14:
                compare(where, kiln, model, "stack", saggar(model), next(3) == 0 ? -1 : saggar(model), about(0, 3)); break;
            case 15: compare(where, kiln, model, "unstack", saggar(model)); break;
            case 16: case 17: case 18: case 19: case 20: case 21: case 22:
                compare(where, kiln, model, "put", wareToPut(model), saggar(model)); break;
            case 23: produce(where, kiln, model); break;
            case 24: fire(where, kiln, model); break;
            case 25: compare(where, kiln, model, "empty", saggar(model)); break;
            case 26: case 27: order(where, kiln, model); break;
            case 28: case 29: sell(where, kiln, model); break;
            case 30: case 31: text(where, kiln, model); break;
            case 32: undo(where, kiln, model); break;
            case 33: compare(where, kiln, model, next(8) == 0 ? "restore" : next(4) == 0 ? "save" : "isBalanced"); break;
            default: question(where, kiln, model); break;
        }
    }

    /** Some wares from the clay to the store, as far as that goes. */
    private static void produce(String where, SaggarKiln kiln, Model model) {
        int first = Integer.parseInt(model.answer("account", 0));
        int count = next(1, 4);
        int saggar = saggar(model);
        compare(where, kiln, model, "clay", 16);
        compare(where, kiln, model, "cast", next(4), count, next(48, 52));
        compare(where, kiln, model, "stack", saggar, -1, next(4));
        for (int ware = first; ware < first + count; ware++) {
            compare(where, kiln, model, "glaze", ware, run % 4, next(1, 2));
            compare(where, kiln, model, "put", ware, saggar);
        }
        fire(where, kiln, model);
        compare(where, kiln, model, "empty", saggar);
    }

    private static void sell(String where, SaggarKiln kiln, Model model) {
        int order = order(model);
        compare(where, kiln, model, "sets", order);
        compare(where, kiln, model, "setsAgain", order);
        compare(where, kiln, model, "sell", order);
    }

    private static int setting() {
        return next(2) == 0 ? about(3, 9) : next(2) == 0 ? about(12, 24) : about(20, 99);
    }

    private static void fire(String where, SaggarKiln kiln, Model model) {
        compare(where, kiln, model, "bestHeat", 1);
        compare(where, kiln, model, "bestHeat", 0);
        String best = model.answer("bestHeat", 0);
        boolean isBest = !best.startsWith("throws") && next(3) > 0;
        int heat = isBest ? Integer.parseInt(best) + next(next(3) > 0 ? 10 : 60) : next(2) == 0 ? next(1200, 1320) : about(1000, 1400);
        compare(where, kiln, model, "fire", heat);
    }

    /** Most often an order for wares of the store. */
    private static void order(String where, SaggarKiln kiln, Model model) {
        int[] many = new int[4];
        int glaze = glaze();
        if (next(5) > 0) {
            for (int kind = 0; kind < 4; kind++) {
                String firsts = model.answer("store", kind, run % 4, 0);
                String seconds = model.answer("store", kind, run % 4, 1);
                many[kind] = next(Math.min(5, 1 + Integer.parseInt(firsts) + Integer.parseInt(seconds)));
                glaze = run % 4;
            }
            if (many[0] + many[1] + many[2] + many[3] == 0 && next(10) > 0) {
                return;
            }
        } else {
            for (int kind = 0; kind < 4; kind++) {
                many[kind] = next(4) > 0 ? 0 : next(4) > 0 ? next(1, 2) : about(0, 6);
            }
        }
        compare(where, kiln, model, "order", many[0], many[1], many[2], many[3], glaze, next(2));
    }

    private static void undo(String where, SaggarKiln kiln, Model model) {
        int times = next(12) == 0 ? 9 : next(3);
        for (int i = 0; i < times; i++) {
            compare(where, kiln, model, "undo");
        }
    }

    private static void text(String where, SaggarKiln kiln, Model model) {
        StringBuilder text = new StringBuilder();
        int steps = next(8) == 0 ? next(16) : next(1, 3);
        for (int i = 0; i < steps; i++) {
            text.append(i > 0 ? ";" : "").append(step(model));
        }
        if (next(5) == 0 && text.length() > 0) {
            text.setCharAt(next(text.length()), "tgpfes;*=@0123456789 \u0661".charAt(next(22)));
        }
        if (next(8) == 0) {
            text.setLength(next(text.length() + 1));
        }
        for (int i = 0; i < text.length(); i++) {
            compare(where, kiln, model, "append", text.charAt(i));
        }
        compare(where, kiln, model, "account", 17);
        compare(where, kiln, model, "read");
        compare(where, kiln, model, "faultPosition");
    }

    private static String step(Model model) {
        switch (next(9)) {
            case 0: return "t" + next(4) + "*" + next(1, 3);
            case 1: case 2: return "g" + Math.floorMod(wareIn(model, 0), 100) + "=" + run % 4 + next(1, 9);
            case 3: case 4: return "p" + Math.floorMod(wareIn(model, 0), 100) + "@" + Math.floorMod(saggar(model), 10);
            case 5: return "f" + next(1200, 1320);
            case 6: return "e" + Math.floorMod(saggar(model), 10);
            case 7: return "s" + Math.floorMod(order(model), 10);
            default: return "p0" + next(10) + "@" + next(10);
        }
    }

    private static void question(String where, SaggarKiln kiln, Model model) {
        switch (next(16)) {
            case 0: compare(where, kiln, model, "ware", wareIn(model, next(6)), about(0, 7)); break;
            case 1: compare(where, kiln, model, "saggarOf", saggar(model), about(0, 6)); break;
            case 2: compare(where, kiln, model, "load", saggar(model)); break;
            case 3: compare(where, kiln, model, "loadAgain", saggar(model)); break;
            case 4: compare(where, kiln, model, "orderOf", order(model), about(0, 6)); break;
            case 5: compare(where, kiln, model, "sign", wareIn(model, next(6))); break;
            case 6: compare(where, kiln, model, "store", about(0, 3), about(-1, 3), next(2)); break;
            case 7: compare(where, kiln, model, "heatAt", saggar(model), about(1000, 1400)); break;
            case 8: compare(where, kiln, model, "wouldBe", wareIn(model, next(6)), next(2) == 0 ? next(1200, 1400) : about(0, 2000)); break;
            case 9: compare(where, kiln, model, "sets", order(model)); break;
            case 10: compare(where, kiln, model, "setsAgain", order(model)); break;
            case 11: compare(where, kiln, model, "account", about(0, 18)); break;
            case 12: compare(where, kiln, model, "isBalanced"); break;
            case 13: compare(where, kiln, model, "firstShare"); break;
            case 14: compare(where, kiln, model, "meanLoad"); break;
            default: compare(where, kiln, model, "refusal", about(0, 2), next(2)); break;
        }
    }

    /** All that can be asked without a change. */
    private static void compareAll(String where, SaggarKiln kiln, Model model) {
        for (int what = 0; what <= 18; what++) {
            compare(where, kiln, model, "account", what);
        }
        for (int depth = 0; depth <= 2; depth++) {
            compare(where, kiln, model, "refusal", depth, 0);
            compare(where, kiln, model, "refusal", depth, 1);
        }
        for (int ware = 0; ware <= 60; ware++) {
            for (int what = 0; what <= 7; what++) {
                compare(where, kiln, model, "ware", ware, what);
            }
            compare(where, kiln, model, "sign", ware);
            compare(where, kiln, model, "wouldBe", ware, next(1200, 1320));
        }
        for (int saggar = 0; saggar <= 8; saggar++) {
            for (int what = 0; what <= 6; what++) {
                compare(where, kiln, model, "saggarOf", saggar, what);
            }
            compare(where, kiln, model, "load", saggar);
            compare(where, kiln, model, "loadAgain", saggar);
            compare(where, kiln, model, "heatAt", saggar, 1300);
        }
        for (int order = 0; order <= 6; order++) {
            for (int what = 0; what <= 6; what++) {
                compare(where, kiln, model, "orderOf", order, what);
            }
            compare(where, kiln, model, "sets", order);
            compare(where, kiln, model, "setsAgain", order);
        }
        for (int kind = 0; kind <= 3; kind++) {
            for (int glaze = -1; glaze <= 3; glaze++) {
                compare(where, kiln, model, "store", kind, glaze, 0);
                compare(where, kiln, model, "store", kind, glaze, 1);
            }
        }
        for (String name : new String[] {"isBalanced", "firstShare", "meanLoad", "faultPosition"}) {
            compare(where, kiln, model, name);
        }
    }
}
