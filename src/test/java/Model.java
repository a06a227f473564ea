import java.util.ArrayDeque;
import java.util.ArrayList;
import java.util.Deque;
import java.util.List;
import java.util.regex.Matcher;
import java.util.regex.Pattern;

/**
 * The document's kiln a second time, written in another way than SaggarKiln: with objects and lists that are copied
 * whole, bungs as lists of saggars, and a regular expression for texts. It answers calls as Script writes answers.
 */
final class Model {
    private static final int[] SIZE = {2, 1, 3, 4};
    private static final int[] MELTS = {1180, 1200, 1220, 1240};
    private static final Pattern TEXT = Pattern.compile("(STEP)(;(STEP))*".replace("STEP",
            "t[0-9][*][0-9]{1,2}|g[0-9]{1,2}=[0-9]{2}|p[0-9]{1,2}@[0-9]|f[0-9]{4}|[es][0-9]"));

    private static final class Ware {
        int kind;
        int bone;
        int state;
        int glaze = -1;
        int thickness;
        int saggar = -1;
        int grade;

        Ware copy() {
            Ware ware = new Ware();
            ware.kind = kind;
            ware.bone = bone;
            ware.state = state;
            ware.glaze = glaze;
            ware.thickness = thickness;
            ware.saggar = saggar;
            ware.grade = grade;
            return ware;
        }

        int need() {
            return 1310 - bone / 2 * 3;
        }
    }

    private static final class State {
        int[] settings = {3, 40, 16};
        int stock;
        int bought;
        int firings;
        int saggars;
        List<Ware> wares = new ArrayList<>();
        List<List<Integer>> bungs = new ArrayList<>();
        List<int[]> orders = new ArrayList<>();

        State() {
            for (int bung = 0; bung < 4; bung++) {
                bungs.add(new ArrayList<>());
            }
        }

        State copy() {
            State state = new State();
            state.settings = settings.clone();
            state.stock = stock;
            state.bought = bought;
            state.firings = firings;
            state.saggars = saggars;
            wares.forEach(ware -> state.wares.add(ware.copy()));
            orders.forEach(order -> state.orders.add(order.clone()));
            state.bungs.clear();
            bungs.forEach(bung -> state.bungs.add(new ArrayList<>(bung)));
            return state;
        }
    }

    /** What a call throws; a refusal carries its reasons and details. */
    private static final class Thrown extends Exception {
        private static final long serialVersionUID = 1;
        final int[] reasons;

        Thrown(String name, int... reasons) {
            super(name);
            this.reasons = reasons;
        }
    }

    private State state = new State();
    private State snapshot;
    private final Deque<State> past = new ArrayDeque<>();
    private String buffer = "";
    private int fault = -1;
    private int[] reasons = {};

    String answer(String name, int... a) {
        State before = state.copy();
        try {
            String result = String.valueOf(call(name, a));
            if ("set clay cast glaze saggar stack unstack put fire empty order sell read".contains(name)
                    && !name.equals("saggarOf")) {
                past.addLast(before);
                if (past.size() > 8) {
                    past.removeFirst();
                }
            }
            return result;
        } catch (Thrown e) {
            state = before;
            if (e.reasons.length > 0) {
                reasons = e.reasons;
            }
            return "throws " + e.getMessage();
        }
    }

    private static Thrown refused(int... reasons) {
        return new Thrown("UnsupportedOperationException", reasons);
    }

    private static void argument(boolean isFine) throws Thrown {
        if (!isFine) {
            throw new Thrown("IllegalArgumentException");
        }
    }

    private static void index(boolean isFine) throws Thrown {
        if (!isFine) {
            throw new Thrown("IndexOutOfBoundsException");
        }
    }

    private static void within(int number, int least, int most) throws Thrown {
        argument(least <= number && number <= most);
    }

    private boolean isWare(int ware) {
        return 0 <= ware && ware < state.wares.size();
    }

    private boolean isSaggar(int saggar) {
        return 0 <= saggar && saggar < state.saggars;
    }

    private boolean isOrder(int order) {
        return 0 <= order && order < state.orders.size();
    }

    private Object call(String name, int... a) throws Thrown {
        switch (name) {
            case "set": return set(a[0], a[1]);
            case "clay": return clay(a[0]);
            case "cast": return cast(a[0], a[1], a[2]);
            case "glaze": return glaze(a[0], a[1], a[2]);
            case "saggar": return saggar();
            case "stack": return stack(a[0], a[1], a[2]);
            case "unstack": return unstack(a[0]);
            case "put": return put(a[0], a[1]);
            case "fire": return fire(a[0]);
            case "empty": return empty(a[0]);
            case "order": return order(a);
            case "sell": return sell(a[0]);
            case "read": return read();
            case "append":
                if (buffer.length() >= 60) {
                    throw new Thrown("IllegalStateException");
                }
                buffer += (char) a[0];
                return buffer.length();
            case "faultPosition": return fault;
            case "refusal":
                within(a[0], 0, 2);
                if (reasons.length <= 2 * a[0]) {
                    throw new Thrown("NoSuchElementException");
                }
                return reasons[2 * a[0] + a[1]];
            case "undo":
                if (past.isEmpty()) {
                    throw new Thrown("IllegalStateException");
                }
                state = past.removeLast();
                return past.size();
            case "save":
                snapshot = state.copy();
                return state.wares.size();
            case "restore":
                if (snapshot == null) {
                    throw new Thrown("IllegalStateException");
                }
                state = snapshot.copy();
                past.clear();
                return state.wares.size();
            default: return ask(name, a);
        }
    }

    private Object ask(String name, int... a) throws Thrown {
        switch (name) {
            case "ware": return ware(a[0], a[1]);
            case "saggarOf": return saggarOf(a[0], a[1]);
            case "load":
            case "loadAgain":
                index(isSaggar(a[0]));
                return load(a[0]);
            case "orderOf":
                index(isOrder(a[0]));
                within(a[1], 0, 6);
                return state.orders.get(a[0])[a[1]];
            case "sign":
                index(isWare(a[0]));
                return "gsfiox".charAt(state.wares.get(a[0]).state);
            case "store":
                within(a[0], 0, 3);
                within(a[1], -1, 3);
                return (int) state.wares.stream().filter(w -> w.state == 3 && w.kind == a[0] && w.glaze == a[1]
                        && w.grade == 1 + a[2]).count();
            case "heatAt":
                index(isSaggar(a[0]));
                within(a[1], 1000, 1400);
                if (bungOf(a[0]) < 0) {
                    throw new Thrown("NoSuchElementException");
                }
                return a[1] - 10 * levelOf(a[0]) - 5 * bungOf(a[0]);
            case "wouldBe":
                index(isWare(a[0]));
                within(a[1], 0, 2000);
                return grade(state.wares.get(a[0]), a[1]);
            case "bestHeat": return bestHeat(a[0] == 1);
            case "sets":
            case "setsAgain": return sets(a[0]);
            case "account": return account(a[0]);
            case "isBalanced": return true;
            case "firstShare":
                double fired = state.wares.stream().filter(w -> w.grade > 0).count();
                if (fired == 0) {
                    throw new Thrown("ArithmeticException");
                }
                return state.wares.stream().filter(w -> w.grade == 1).count() / fired;
            case "meanLoad": return meanLoad();
            default: throw new IllegalArgumentException(name);
        }
    }

    private int set(int what, int value) throws Thrown {
        within(what, 0, 2);
        within(value, what == 0 ? 0 : what == 1 ? 10 : 5, what == 0 ? 9 : what == 1 ? 99 : 40);
        int before = state.settings[what];
        state.settings[what] = value;
        return before;
    }

    private int clay(int amount) throws Thrown {
        within(amount, 1, 99);
        if (amount > 999 - state.stock) {
            throw refused(1, 999);
        }
        state.bought += amount;
        return state.stock += amount;
    }

    private int cast(int kind, int count, int bone) throws Thrown {
        within(kind, 0, 3);
        within(count, 1, 20);
        within(bone, 30, 60);
        if (state.wares.size() > 60 - count) {
            throw refused(1, 60);
        }
        if (count * SIZE[kind] > state.stock) {
            throw refused(2, state.stock);
        }
        for (int i = 0; i < count; i++) {
            Ware ware = new Ware();
            ware.kind = kind;
            ware.bone = bone;
            state.wares.add(ware);
            state.stock -= SIZE[kind];
        }
        return state.wares.size();
    }

    private int glaze(int ware, int glaze, int thickness) throws Thrown {
        index(isWare(ware));
        within(glaze, 0, 3);
        within(thickness, 1, 9);
        Ware w = state.wares.get(ware);
        if (w.state != 0) {
            throw refused(3, w.state);
        }
        w.glaze = glaze;
        w.thickness = thickness;
        return MELTS[glaze] - thickness * 4;
    }

    private int saggar() throws Thrown {
        if (state.saggars == 8) {
            throw refused(1, 8);
        }
        return state.saggars++;
    }

    private int bungOf(int saggar) {
        for (int bung = 0; bung < 4; bung++) {
            if (state.bungs.get(bung).contains(saggar)) {
                return bung;
            }
        }
        return -1;
    }

    private int levelOf(int saggar) {
        int bung = bungOf(saggar);
        return bung < 0 ? -1 : state.bungs.get(bung).indexOf(saggar);
    }

    private int neighbour(int saggar, int way) {
        int level = levelOf(saggar);
        if (level < 0) {
            return -1;
        }
        List<Integer> bung = state.bungs.get(bungOf(saggar));
        return level + way < 0 || level + way >= bung.size() ? -1 : bung.get(level + way);
    }

    private int size(int saggar) {
        return state.wares.stream().filter(w -> w.saggar == saggar).mapToInt(w -> SIZE[w.kind]).sum();
    }

    private int load(int saggar) {
        int level = levelOf(saggar);
        if (level < 0) {
            return 0;
        }
        List<Integer> bung = state.bungs.get(bungOf(saggar));
        return bung.subList(level + 1, bung.size()).stream().mapToInt(s -> 3 + size(s)).sum();
    }

    private void refuseLoads(List<Integer> below, int added) throws Thrown {
        for (int saggar : below) {
            if (load(saggar) + added > state.settings[2]) {
                throw refused(7, saggar);
            }
        }
    }

    private int stack(int saggar, int onto, int bung) throws Thrown {
        index(isSaggar(saggar));
        index(onto == -1 || isSaggar(onto));
        index(onto != -1 || 0 <= bung && bung < 4);
        argument(saggar != onto);
        if (bungOf(saggar) >= 0) {
            throw refused(5, saggar);
        }
        if (onto >= 0 && bungOf(onto) < 0) {
            throw refused(5, onto);
        }
        List<Integer> place = state.bungs.get(onto < 0 ? bung : bungOf(onto));
        if (onto < 0 && !place.isEmpty()) {
            throw refused(6, place.get(0));
        }
        if (onto >= 0 && neighbour(onto, 1) >= 0) {
            throw refused(6, neighbour(onto, 1));
        }
        refuseLoads(place, 3 + size(saggar));
        place.add(saggar);
        return place.size() - 1;
    }

    private int unstack(int saggar) throws Thrown {
        index(isSaggar(saggar));
        int level = levelOf(saggar);
        if (level < 0) {
            throw refused(5, saggar);
        }
        if (neighbour(saggar, 1) >= 0) {
            throw refused(8, neighbour(saggar, 1));
        }
        state.bungs.get(bungOf(saggar)).remove(level);
        return level;
    }

    private int put(int ware, int saggar) throws Thrown {
        index(isWare(ware) && isSaggar(saggar));
        Ware w = state.wares.get(ware);
        if (w.state != 0) {
            throw refused(3, w.state);
        }
        if (size(saggar) + SIZE[w.kind] > 6) {
            throw refused(4, 6 - size(saggar));
        }
        if (bungOf(saggar) >= 0) {
            refuseLoads(state.bungs.get(bungOf(saggar)).subList(0, levelOf(saggar)), SIZE[w.kind]);
        }
        w.saggar = saggar;
        w.state = 1;
        return 6 - size(saggar);
    }

    private int grade(Ware w, int heat) {
        int over = heat - w.need();
        int flow = 0;
        if (w.glaze >= 0) {
            int melting = MELTS[w.glaze] - 4 * w.thickness;
            flow = heat > melting ? (heat - melting) / 10 : 0;
        }
        boolean isWaster = over < 0 || over > 2 * state.settings[1] || flow > 2 * state.settings[0];
        boolean isSecond = over > state.settings[1] || flow > state.settings[0] || w.glaze < 0;
        return isWaster ? 3 : isSecond ? 2 : 1;
    }

    private List<Ware> toFire() {
        List<Ware> found = new ArrayList<>(state.wares);
        found.removeIf(w -> w.state != 1 || bungOf(w.saggar) < 0);
        return found;
    }

    private int gradeThere(Ware w, int heat) {
        return grade(w, heat - 10 * levelOf(w.saggar) - 5 * bungOf(w.saggar));
    }

    private int fire(int heat) throws Thrown {
        within(heat, 1000, 1400);
        List<Ware> wares = toFire();
        if (wares.isEmpty()) {
            throw refused(9, 0);
        }
        wares.forEach(w -> w.grade = gradeThere(w, heat));
        wares.forEach(w -> w.state = 2);
        state.firings++;
        return (int) wares.stream().filter(w -> w.grade == 1).count();
    }

    private int bestHeat(boolean isMany) throws Thrown {
        List<Ware> wares = toFire();
        if (wares.isEmpty()) {
            throw new Thrown("NoSuchElementException");
        }
        int best = 1400;
        long most = -1;
        for (int h = 1400; h >= 1000; h -= 10) {
            int heat = h;
            long firsts = wares.stream().filter(w -> gradeThere(w, heat) == 1).count();
            if (firsts >= most) {
                most = firsts;
                best = heat;
            }
        }
        return isMany ? (int) most : best;
    }

    private int empty(int saggar) throws Thrown {
        index(isSaggar(saggar));
        int stored = 0;
        int found = 0;
        for (Ware w : state.wares) {
            if (w.saggar == saggar) {
                found++;
                w.saggar = -1;
                w.state = w.state == 1 ? 0 : w.grade == 3 ? 5 : 3;
                stored += w.state == 3 ? 1 : 0;
            }
        }
        if (found == 0) {
            throw refused(9, 0);
        }
        return stored;
    }

    /** An order is kept as what orderOf answers for 0 to 6. */
    private int order(int[] a) throws Thrown {
        int sum = 0;
        for (int kind = 0; kind < 4; kind++) {
            within(a[kind], 0, 6);
            sum += a[kind];
        }
        within(a[4], 0, 3);
        argument(sum > 0);
        if (state.orders.size() == 6) {
            throw refused(1, 6);
        }
        state.orders.add(new int[] {a[0], a[1], a[2], a[3], a[4], a[5], 0});
        return state.orders.size() - 1;
    }

    private List<Ware> fitting(int[] order, int kind) {
        List<Ware> found = new ArrayList<>(state.wares);
        found.removeIf(w -> w.state != 3 || w.kind != kind || w.glaze != order[4] || w.grade > 1 + order[5]);
        return found;
    }

    private int sell(int number) throws Thrown {
        index(isOrder(number));
        int[] order = state.orders.get(number);
        for (int kind = 0; kind < 4; kind++) {
            if (fitting(order, kind).size() < order[kind]) {
                throw refused(10, number, 12, kind);
            }
        }
        for (int kind = 0; kind < 4; kind++) {
            fitting(order, kind).subList(0, order[kind]).forEach(w -> w.state = 4);
        }
        return ++order[6];
    }

    private int sets(int number) throws Thrown {
        index(isOrder(number));
        int[] order = state.orders.get(number);
        int sets = 0;
        boolean isEnough = true;
        while (isEnough) {
            for (int kind = 0; kind < 4; kind++) {
                isEnough &= fitting(order, kind).size() >= (sets + 1) * order[kind];
            }
            sets++;
        }
        return sets - 1;
    }

    private int ware(int ware, int what) throws Thrown {
        index(isWare(ware));
        within(what, 0, 7);
        Ware w = state.wares.get(ware);
        return new int[] {w.kind, w.bone, w.state, w.glaze, w.thickness, w.saggar, w.grade, w.need()}[what];
    }

    private int saggarOf(int s, int what) throws Thrown {
        index(isSaggar(s));
        within(what, 0, 6);
        int count = (int) state.wares.stream().filter(w -> w.saggar == s).count();
        return new int[] {6 - size(s), levelOf(s), bungOf(s), neighbour(s, 1), neighbour(s, -1), 3 + size(s), count}[what];
    }

    private int inKiln() {
        return state.bungs.stream().mapToInt(List::size).sum();
    }

    private int account(int what) throws Thrown {
        within(what, 0, 18);
        if (what >= 1 && what <= 6) {
            return (int) state.wares.stream().filter(w -> w.state == what - 1).count();
        }
        int sold = state.orders.stream().mapToInt(order -> order[6]).sum();
        return new int[] {state.wares.size(), 0, 0, 0, 0, 0, 0, state.saggars, inKiln(), state.orders.size(), sold,
            state.firings, state.bought, state.stock, state.settings[0], state.settings[1], state.settings[2],
            buffer.length(), past.size()}[what];
    }

    private float meanLoad() throws Thrown {
        if (inKiln() == 0) {
            throw new Thrown("ArithmeticException");
        }
        float sum = 0;
        for (int saggar = 0; saggar < state.saggars; saggar++) {
            sum += load(saggar);
        }
        return sum / inKiln();
    }

    private static boolean canContinue(String text) {
        Matcher matcher = TEXT.matcher(text);
        return matcher.matches() || matcher.hitEnd();
    }

    private int read() throws Thrown {
        String text = buffer;
        buffer = "";
        fault = -1;
        if (!TEXT.matcher(text).matches()) {
            fault = 0;
            while (fault < text.length() && canContinue(text.substring(0, fault + 1))) {
                fault++;
            }
            argument(false);
        }
        String[] steps = text.split(";");
        for (int i = 0; i < steps.length; i++) {
            try {
                step(steps[i].charAt(0), steps[i].substring(1));
            } catch (Thrown e) {
                int[] behind = e.reasons.length > 0 ? e.reasons : new int[] {13, 0};
                int[] all = new int[behind.length + 2];
                all[0] = 11;
                all[1] = i;
                System.arraycopy(behind, 0, all, 2, behind.length);
                throw refused(all);
            }
        }
        return steps.length;
    }

    private void step(char verb, String rest) throws Thrown {
        String[] parts = rest.split("[*=@]");
        int first = Integer.parseInt(parts[0]);
        int second = parts.length > 1 ? Integer.parseInt(parts[1]) : 0;
        switch (verb) {
            case 't': cast(first, second, 50); break;
            case 'g': glaze(first, second / 10, second % 10); break;
            case 'p': put(first, second); break;
            case 'f': fire(first); break;
            case 'e': empty(first); break;
            default: sell(first); break;
        }
    }
}
