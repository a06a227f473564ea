import java.util.NoSuchElementException;

/**
 * A kiln for bone china, with its clay, wares, saggars, firings and orders.
 *
 * <p>Every change is tried on a draft, a copy of all that changes can change. The draft takes the
 * place of the present state only if the change can be done, so that a refused change, or a text
 * with a step that cannot be done, leaves nothing behind. The rows of all states are made once.
 */
public final class SaggarKiln {
    private static final int MOST_CLAY = 999;
    private static final int MOST_CLAY_AT_ONCE = 99;
    private static final int MOST_WARES = 60;
    private static final int MOST_WARES_AT_ONCE = 20;
    private static final int MOST_SAGGARS = 8;
    private static final int MOST_ORDERS = 6;
    private static final int MOST_OF_A_KIND = 6;
    private static final int MOST_SIGNS = 60;
    private static final int MOST_UNDOS = 8;
    /** The shortest step has two characters, and a semicolon ahead of all but the first. */
    private static final int MOST_STEPS = 20;

    private static final int KINDS = 4;
    private static final int GLAZES = 4;
    private static final int BUNGS = 4;
    private static final int[] SIZES = {2, 1, 3, 4};
    private static final int[] MELTING_HEATS = {1180, 1200, 1220, 1240};
    private static final int MOST_THICKNESS = 9;
    private static final int LEAST_BONE = 30;
    private static final int MOST_BONE = 60;
    private static final int BONE_IN_TEXTS = 50;
    private static final int SAGGAR_WEIGHT = 3;
    private static final int SAGGAR_ROOM = 6;
    private static final int LEAST_HEAT = 1000;
    private static final int MOST_HEAT = 1400;
    private static final int MOST_HEAT_THERE = 2000;

    private static final int SETTINGS = 3;
    private static final int RUN = 0;
    private static final int WARP = 1;
    private static final int STRENGTH = 2;
    private static final int[] LEAST_VALUES = {0, 10, 5};
    private static final int[] MOST_VALUES = {9, 99, 40};

    private static final int STATES = 6;
    private static final int GREEN = 0;
    private static final int IN_SAGGAR = 1;
    private static final int FIRED = 2;
    private static final int IN_STORE = 3;
    private static final int SOLD = 4;
    private static final int BROKEN = 5;
    private static final char[] SIGNS = {'g', 's', 'f', 'i', 'o', 'x'};

    private static final int NOT_FIRED = 0;
    private static final int FIRST = 1;
    private static final int SECOND = 2;
    private static final int WASTER = 3;

    private static final int TOO_MANY = 1;
    private static final int TOO_LITTLE_CLAY = 2;
    private static final int OTHER_STATE = 3;
    private static final int TOO_LITTLE_ROOM = 4;
    private static final int OTHER_PLACE = 5;
    private static final int PLACE_TAKEN = 6;
    private static final int LOAD_TOO_GREAT = 7;
    private static final int BEARS_ANOTHER = 8;
    private static final int NOTHING_THERE = 9;
    private static final int NO_SET = 10;
    private static final int STEP_FAILS = 11;
    private static final int TOO_FEW_WARES = 12;
    private static final int STEP_THROWS = 13;
    private static final int MOST_REASONS = 3;

    private static final int NONE = -1;

    /** What a change answers if it cannot be done; what it answers otherwise is never negative. */
    private static final int NO_SUCH = -1;
    private static final int OUT_OF_RANGE = -2;
    private static final int REFUSED = -3;

    private final Reasons reasons;
    private final History history;
    private final StepText text;
    private Works now;
    private Works draft;
    private final Works snapshot;
    private boolean hasSnapshot;
    private int fault;

    public SaggarKiln() {
        reasons = new Reasons();
        history = new History();
        text = new StepText();
        now = new Works();
        draft = new Works();
        snapshot = new Works();
        fault = NONE;
    }

    // Wares.

    public int set(int what, int value) throws IllegalArgumentException {
        return settle(freshDraft().changeSetting(what, value));
    }

    public int clay(int amount) throws IllegalArgumentException, UnsupportedOperationException {
        return settle(freshDraft().buyClay(amount));
    }

    public int cast(int kind, int count, int bone) throws IllegalArgumentException, UnsupportedOperationException {
        return settle(freshDraft().throwWares(kind, count, bone));
    }

    public int glaze(int ware, int glaze, int thickness)
            throws IndexOutOfBoundsException, IllegalArgumentException, UnsupportedOperationException {
        return settle(freshDraft().coatWare(ware, glaze, thickness));
    }

    // Saggars and firings.

    public int saggar() throws UnsupportedOperationException {
        return settle(freshDraft().addSaggar());
    }

    public int stack(int saggar, int onto, int bung)
            throws IndexOutOfBoundsException, IllegalArgumentException, UnsupportedOperationException {
        return settle(freshDraft().standInKiln(saggar, onto, bung));
    }

    public int unstack(int saggar) throws IndexOutOfBoundsException, UnsupportedOperationException {
        return settle(freshDraft().standOnFloor(saggar));
    }

    public int put(int ware, int saggar) throws IndexOutOfBoundsException, UnsupportedOperationException {
        return settle(freshDraft().putWare(ware, saggar));
    }

    public int fire(int heat) throws IllegalArgumentException, UnsupportedOperationException {
        return settle(freshDraft().fireWares(heat));
    }

    public int empty(int saggar) throws IndexOutOfBoundsException, UnsupportedOperationException {
        return settle(freshDraft().emptySaggar(saggar));
    }

    // Orders.

    public int order(int cups, int saucers, int plates, int bowls, int glaze, boolean areSeconds)
            throws IllegalArgumentException, UnsupportedOperationException {
        return settle(freshDraft().addOrder(cups, saucers, plates, bowls, glaze, areSeconds));
    }

    public int sell(int order) throws IndexOutOfBoundsException, UnsupportedOperationException {
        return settle(freshDraft().sellSet(order));
    }

    // What there is.

    public int ware(int ware, int what) throws IndexOutOfBoundsException, IllegalArgumentException {
        needWare(ware);
        needRange(what, 0, 7);
        return now.wares.numberOf(ware, what);
    }

    public int saggarOf(int saggar, int what) throws IndexOutOfBoundsException, IllegalArgumentException {
        needSaggar(saggar);
        needRange(what, 0, 6);
        return now.numberOfSaggar(saggar, what);
    }

    public int load(int saggar) throws IndexOutOfBoundsException {
        needSaggar(saggar);
        return now.weightAbove(saggar);
    }

    public int loadAgain(int saggar) throws IndexOutOfBoundsException {
        needSaggar(saggar);
        return now.weightOfRestOfBung(saggar);
    }

    public int orderOf(int order, int what) throws IndexOutOfBoundsException, IllegalArgumentException {
        needOrder(order);
        needRange(what, 0, 6);
        return now.orders.numberOf(order, what);
    }

    public char sign(int ware) throws IndexOutOfBoundsException {
        needWare(ware);
        return SIGNS[now.wares.state[ware]];
    }

    public int store(int kind, int glaze, boolean areSeconds) throws IllegalArgumentException {
        needRange(kind, 0, KINDS - 1);
        needRange(glaze, NONE, GLAZES - 1);
        return now.wares.countInStore(kind, glaze, areSeconds ? SECOND : FIRST);
    }

    // Ahead.

    public int heatAt(int saggar, int heat)
            throws IndexOutOfBoundsException, IllegalArgumentException, NoSuchElementException {
        needSaggar(saggar);
        needRange(heat, LEAST_HEAT, MOST_HEAT);
        if (!now.saggars.isInKiln(saggar)) {
            throw new NoSuchElementException("the saggar is on the floor");
        }
        return now.saggars.heatThere(saggar, heat);
    }

    public int wouldBe(int ware, int heat) throws IndexOutOfBoundsException, IllegalArgumentException {
        needWare(ware);
        needRange(heat, 0, MOST_HEAT_THERE);
        return now.gradeAt(ware, heat);
    }

    public int bestHeat(boolean isMany) throws NoSuchElementException {
        if (!now.isThereToFire()) {
            throw new NoSuchElementException("there is nothing to fire");
        }
        int bestHeat = LEAST_HEAT;
        int most = 0;
        for (int heat = LEAST_HEAT; heat <= MOST_HEAT; heat += 10) {
            int firsts = now.firstsBy(heat);
            if (firsts > most) {
                most = firsts;
                bestHeat = heat;
            }
        }
        return isMany ? most : bestHeat;
    }

    public int sets(int order) throws IndexOutOfBoundsException {
        needOrder(order);
        return freshDraft().sellAllSets(order);
    }

    public int setsAgain(int order) throws IndexOutOfBoundsException {
        needOrder(order);
        return now.setsByDivision(order);
    }

    // Texts, accounts, undo and snapshot.

    public int append(char c) throws IllegalStateException {
        if (text.isFull()) {
            throw new IllegalStateException("the text buffer is full");
        }
        text.add(c);
        return text.length;
    }

    public int read() throws IllegalArgumentException, UnsupportedOperationException {
        fault = text.parse();
        text.clear();
        if (fault != NONE) {
            throw new IllegalArgumentException("the text has a fault");
        }
        Works works = freshDraft();
        int result = 0;
        for (int step = 0; step < text.steps && result >= 0; step++) {
            result = doStep(works, step);
            if (result < 0) {
                works.noteFailedStep(step, result);
            }
        }
        return settle(result < 0 ? REFUSED : text.steps);
    }

    public int faultPosition() {
        return fault;
    }

    public int refusal(int depth, boolean isDetail) throws IllegalArgumentException, NoSuchElementException {
        needRange(depth, 0, MOST_REASONS - 1);
        if (depth >= reasons.count) {
            throw new NoSuchElementException("there is no such reason");
        }
        return isDetail ? reasons.detail[depth] : reasons.reason[depth];
    }

    public int account(int what) throws IllegalArgumentException {
        needRange(what, 0, 18);
        switch (what) {
            case 17:
                return text.length;
            case 18:
                return history.count;
            default:
                return now.accountOf(what);
        }
    }

    public boolean isBalanced() {
        return now.isClayBalanced() && now.areSalesBalanced() && now.areLoadsBalanced();
    }

    public double firstShare() throws ArithmeticException {
        int fired = now.wares.countFired();
        if (fired == 0) {
            throw new ArithmeticException("no ware was fired");
        }
        return (double) now.wares.countOfGrade(FIRST) / (double) fired;
    }

    public float meanLoad() throws ArithmeticException {
        int inKiln = now.saggars.countInKiln();
        if (inKiln == 0) {
            throw new ArithmeticException("there is no saggar in the kiln");
        }
        return (float) now.sumOfLoads() / (float) inKiln;
    }

    public int undo() throws IllegalStateException {
        if (history.count == 0) {
            throw new IllegalStateException("there is no change to undo");
        }
        now = history.exchangeLatest(now);
        return history.count;
    }

    public int save() {
        snapshot.copyFrom(now);
        hasSnapshot = true;
        return now.wares.count;
    }

    public int restore() throws IllegalStateException {
        if (!hasSnapshot) {
            throw new IllegalStateException("there is no snapshot");
        }
        now.copyFrom(snapshot);
        history.forget();
        return now.wares.count;
    }

    // What stands behind the face.

    private Works freshDraft() {
        draft.copyFrom(now);
        return draft;
    }

    /** Takes over the draft on which a change was tried, or throws what the change ended with. */
    private int settle(int result) {
        if (result == NO_SUCH) {
            throw new IndexOutOfBoundsException("there is no such ware, saggar, bung or order");
        }
        if (result == OUT_OF_RANGE) {
            throw new IllegalArgumentException("an argument is out of range");
        }
        if (result == REFUSED) {
            reasons.copyFrom(draft.why);
            throw new UnsupportedOperationException("it is refused; refusal tells the reason");
        }
        Works before = now;
        now = draft;
        draft = history.keep(before);
        return result;
    }

    private int doStep(Works works, int step) {
        int first = text.numbers[0][step];
        int second = text.numbers[1][step];
        int third = text.numbers[2][step];
        switch (text.verbs[step]) {
            case 't':
                return works.throwWares(first, second, BONE_IN_TEXTS);
            case 'g':
                return works.coatWare(first, second, third);
            case 'p':
                return works.putWare(first, second);
            case 'f':
                return works.fireWares(first);
            case 'e':
                return works.emptySaggar(first);
            default:
                return works.sellSet(first);
        }
    }

    private void needWare(int ware) {
        if (!now.wares.has(ware)) {
            throw new IndexOutOfBoundsException("there is no such ware");
        }
    }

    private void needSaggar(int saggar) {
        if (!now.saggars.has(saggar)) {
            throw new IndexOutOfBoundsException("there is no such saggar");
        }
    }

    private void needOrder(int order) {
        if (!now.orders.has(order)) {
            throw new IndexOutOfBoundsException("there is no such order");
        }
    }

    private static void needRange(int number, int least, int most) {
        if (!isFrom(number, least, most)) {
            throw new IllegalArgumentException("a number is out of range");
        }
    }

    private static boolean isFrom(int number, int least, int most) {
        return number >= least && number <= most;
    }

    /** All that changes can change, and the changes. A change that cannot be done changes nothing. */
    private static final class Works {
        final Wares wares;
        final Saggars saggars;
        final Orders orders;
        /** Why the latest change here was refused; no part of what is copied. */
        final Reasons why;
        private final int[] settings = {3, 40, 16};
        private int stock;
        private int bought;
        private int firings;

        Works() {
            wares = new Wares();
            saggars = new Saggars();
            orders = new Orders();
            why = new Reasons();
        }

        void copyFrom(Works other) {
            wares.copyFrom(other.wares);
            saggars.copyFrom(other.saggars);
            orders.copyFrom(other.orders);
            System.arraycopy(other.settings, 0, settings, 0, SETTINGS);
            stock = other.stock;
            bought = other.bought;
            firings = other.firings;
        }

        int changeSetting(int what, int value) {
            if (!isFrom(what, 0, SETTINGS - 1) || !isFrom(value, LEAST_VALUES[what], MOST_VALUES[what])) {
                return OUT_OF_RANGE;
            }
            int before = settings[what];
            settings[what] = value;
            return before;
        }

        int buyClay(int amount) {
            if (!isFrom(amount, 1, MOST_CLAY_AT_ONCE)) {
                return OUT_OF_RANGE;
            }
            if (stock + amount > MOST_CLAY) {
                return why.refuse(TOO_MANY, MOST_CLAY);
            }
            stock += amount;
            bought += amount;
            return stock;
        }

        int throwWares(int kind, int count, int bone) {
            if (!isFrom(kind, 0, KINDS - 1) || !isFrom(count, 1, MOST_WARES_AT_ONCE)
                    || !isFrom(bone, LEAST_BONE, MOST_BONE)) {
                return OUT_OF_RANGE;
            }
            if (wares.count + count > MOST_WARES) {
                return why.refuse(TOO_MANY, MOST_WARES);
            }
            int needed = count * SIZES[kind];
            if (needed > stock) {
                return why.refuse(TOO_LITTLE_CLAY, stock);
            }
            stock -= needed;
            for (int i = 0; i < count; i++) {
                wares.add(kind, bone);
            }
            return wares.count;
        }

        int coatWare(int ware, int glaze, int thickness) {
            if (!wares.has(ware)) {
                return NO_SUCH;
            }
            if (!isFrom(glaze, 0, GLAZES - 1) || !isFrom(thickness, 1, MOST_THICKNESS)) {
                return OUT_OF_RANGE;
            }
            if (wares.state[ware] != GREEN) {
                return why.refuse(OTHER_STATE, wares.state[ware]);
            }
            wares.glaze[ware] = glaze;
            wares.thickness[ware] = thickness;
            return wares.meltingHeatOf(ware);
        }

        int addSaggar() {
            if (saggars.count >= MOST_SAGGARS) {
                return why.refuse(TOO_MANY, MOST_SAGGARS);
            }
            return saggars.add();
        }

        int standInKiln(int saggar, int onto, int bungOfFoot) {
            boolean isFoot = onto == NONE;
            if (!saggars.has(saggar) || (isFoot ? !isFrom(bungOfFoot, 0, BUNGS - 1) : !saggars.has(onto))) {
                return NO_SUCH;
            }
            if (saggar == onto) {
                return OUT_OF_RANGE;
            }
            if (saggars.isInKiln(saggar)) {
                return why.refuse(OTHER_PLACE, saggar);
            }
            if (!isFoot && !saggars.isInKiln(onto)) {
                return why.refuse(OTHER_PLACE, onto);
            }
            int bung = isFoot ? bungOfFoot : saggars.bung[onto];
            int level = isFoot ? 0 : saggars.level[onto] + 1;
            int there = saggars.at(bung, level);
            if (there != NONE) {
                return why.refuse(PLACE_TAKEN, there);
            }
            int overloaded = overloadedBelow(bung, level, weightOf(saggar));
            if (overloaded != NONE) {
                return why.refuse(LOAD_TOO_GREAT, overloaded);
            }
            saggars.place(saggar, bung, level);
            return level;
        }

        int standOnFloor(int saggar) {
            if (!saggars.has(saggar)) {
                return NO_SUCH;
            }
            if (!saggars.isInKiln(saggar)) {
                return why.refuse(OTHER_PLACE, saggar);
            }
            int above = saggars.above(saggar);
            if (above != NONE) {
                return why.refuse(BEARS_ANOTHER, above);
            }
            int level = saggars.level[saggar];
            saggars.place(saggar, NONE, NONE);
            return level;
        }

        int putWare(int ware, int saggar) {
            if (!wares.has(ware) || !saggars.has(saggar)) {
                return NO_SUCH;
            }
            if (wares.state[ware] != GREEN) {
                return why.refuse(OTHER_STATE, wares.state[ware]);
            }
            int size = wares.sizeOf(ware);
            int free = roomIn(saggar);
            if (size > free) {
                return why.refuse(TOO_LITTLE_ROOM, free);
            }
            int overloaded = overloadedBelow(saggars.bung[saggar], saggars.level[saggar], size);
            if (overloaded != NONE) {
                return why.refuse(LOAD_TOO_GREAT, overloaded);
            }
            wares.state[ware] = IN_SAGGAR;
            wares.saggar[ware] = saggar;
            return free - size;
        }

        int fireWares(int heat) {
            if (!isFrom(heat, LEAST_HEAT, MOST_HEAT)) {
                return OUT_OF_RANGE;
            }
            if (!isThereToFire()) {
                return why.refuse(NOTHING_THERE, 0);
            }
            int firsts = 0;
            for (int ware = 0; ware < wares.count; ware++) {
                if (isToFire(ware)) {
                    int grade = gradeByFiring(ware, heat);
                    wares.state[ware] = FIRED;
                    wares.grade[ware] = grade;
                    firsts += grade == FIRST ? 1 : 0;
                }
            }
            firings++;
            return firsts;
        }

        int emptySaggar(int saggar) {
            if (!saggars.has(saggar)) {
                return NO_SUCH;
            }
            if (wares.countIn(saggar) == 0) {
                return why.refuse(NOTHING_THERE, 0);
            }
            int stored = 0;
            for (int ware = 0; ware < wares.count; ware++) {
                if (wares.saggar[ware] == saggar) {
                    wares.takeOut(ware);
                    stored += wares.state[ware] == IN_STORE ? 1 : 0;
                }
            }
            return stored;
        }

        int addOrder(int cups, int saucers, int plates, int bowls, int glaze, boolean areSeconds) {
            if (!isFrom(cups, 0, MOST_OF_A_KIND) || !isFrom(saucers, 0, MOST_OF_A_KIND)
                    || !isFrom(plates, 0, MOST_OF_A_KIND) || !isFrom(bowls, 0, MOST_OF_A_KIND)
                    || !isFrom(glaze, 0, GLAZES - 1) || cups + saucers + plates + bowls == 0) {
                return OUT_OF_RANGE;
            }
            if (orders.count >= MOST_ORDERS) {
                return why.refuse(TOO_MANY, MOST_ORDERS);
            }
            int order = orders.add(glaze, areSeconds);
            orders.ask(order, 0, cups);
            orders.ask(order, 1, saucers);
            orders.ask(order, 2, plates);
            orders.ask(order, 3, bowls);
            return order;
        }

        int sellSet(int order) {
            if (!orders.has(order)) {
                return NO_SUCH;
            }
            int lacking = lackingKind(order);
            if (lacking != NONE) {
                why.note(TOO_FEW_WARES, lacking);
                why.noteAhead(NO_SET, order);
                return REFUSED;
            }
            takeSet(order);
            return orders.sold[order];
        }

        void noteFailedStep(int step, int result) {
            if (result != REFUSED) {
                why.note(STEP_THROWS, 0);
            }
            why.noteAhead(STEP_FAILS, step);
        }

        /** Sells sets until one cannot be sold any more, without keeping a reason. */
        int sellAllSets(int order) {
            int sets = 0;
            while (sets < MOST_WARES && lackingKind(order) == NONE) {
                takeSet(order);
                sets++;
            }
            return sets;
        }

        int setsByDivision(int order) {
            int sets = MOST_WARES;
            for (int kind = 0; kind < KINDS; kind++) {
                int asked = orders.askedOf(order, kind);
                if (asked > 0) {
                    sets = Math.min(sets, countFor(order, kind) / asked);
                }
            }
            return sets;
        }

        private int lackingKind(int order) {
            for (int kind = 0; kind < KINDS; kind++) {
                if (countFor(order, kind) < orders.askedOf(order, kind)) {
                    return kind;
                }
            }
            return NONE;
        }

        private int countFor(int order, int kind) {
            int firsts = wares.countInStore(kind, orders.glaze[order], FIRST);
            int seconds = wares.countInStore(kind, orders.glaze[order], SECOND);
            return orders.areSeconds[order] == 1 ? firsts + seconds : firsts;
        }

        private void takeSet(int order) {
            int worst = orders.areSeconds[order] == 1 ? SECOND : FIRST;
            for (int kind = 0; kind < KINDS; kind++) {
                int left = orders.askedOf(order, kind);
                for (int ware = 0; ware < wares.count && left > 0; ware++) {
                    if (wares.isInStore(ware, kind, orders.glaze[order]) && wares.grade[ware] <= worst) {
                        wares.state[ware] = SOLD;
                        left--;
                    }
                }
            }
            orders.sold[order]++;
        }

        boolean isThereToFire() {
            for (int ware = 0; ware < wares.count; ware++) {
                if (isToFire(ware)) {
                    return true;
                }
            }
            return false;
        }

        int firstsBy(int heat) {
            int firsts = 0;
            for (int ware = 0; ware < wares.count; ware++) {
                if (isToFire(ware) && gradeByFiring(ware, heat) == FIRST) {
                    firsts++;
                }
            }
            return firsts;
        }

        private boolean isToFire(int ware) {
            return wares.state[ware] == IN_SAGGAR && saggars.isInKiln(wares.saggar[ware]);
        }

        private int gradeByFiring(int ware, int heat) {
            return gradeAt(ware, saggars.heatThere(wares.saggar[ware], heat));
        }

        int gradeAt(int ware, int heat) {
            int need = wares.needOf(ware);
            int flow = wares.flowAt(ware, heat);
            int warp = settings[WARP];
            int run = settings[RUN];
            if (heat < need || heat > need + 2 * warp || flow > 2 * run) {
                return WASTER;
            }
            if (heat > need + warp || flow > run || !wares.isGlazed(ware)) {
                return SECOND;
            }
            return FIRST;
        }

        private int weightOf(int saggar) {
            return SAGGAR_WEIGHT + wares.sizeIn(saggar);
        }

        private int roomIn(int saggar) {
            return SAGGAR_ROOM - wares.sizeIn(saggar);
        }

        /** The lowest saggar below a place of which the load would be too great with more weight at the place. */
        private int overloadedBelow(int bung, int level, int added) {
            for (int i = 0; i < level; i++) {
                int below = saggars.at(bung, i);
                if (below != NONE && weightAbove(below) + added > settings[STRENGTH]) {
                    return below;
                }
            }
            return NONE;
        }

        int weightAbove(int saggar) {
            int weight = 0;
            int above = saggars.above(saggar);
            for (int i = 0; i < MOST_SAGGARS && above != NONE; i++) {
                weight += weightOf(above);
                above = saggars.above(above);
            }
            return weight;
        }

        int weightOfRestOfBung(int saggar) {
            if (!saggars.isInKiln(saggar)) {
                return 0;
            }
            int ofAll = 0;
            int notAbove = 0;
            for (int other = 0; other < saggars.count; other++) {
                if (saggars.bung[other] == saggars.bung[saggar]) {
                    ofAll += weightOf(other);
                    notAbove += saggars.level[other] <= saggars.level[saggar] ? weightOf(other) : 0;
                }
            }
            return ofAll - notAbove;
        }

        int sumOfLoads() {
            int sum = 0;
            for (int saggar = 0; saggar < saggars.count; saggar++) {
                sum += weightAbove(saggar);
            }
            return sum;
        }

        int numberOfSaggar(int saggar, int what) {
            switch (what) {
                case 0:
                    return roomIn(saggar);
                case 1:
                    return saggars.level[saggar];
                case 2:
                    return saggars.bung[saggar];
                case 3:
                    return saggars.above(saggar);
                case 4:
                    return saggars.below(saggar);
                case 5:
                    return weightOf(saggar);
                default:
                    return wares.countIn(saggar);
            }
        }

        int accountOf(int what) {
            if (isFrom(what, 1, STATES)) {
                return wares.countInState(what - 1);
            }
            if (isFrom(what, 14, 14 + SETTINGS - 1)) {
                return settings[what - 14];
            }
            switch (what) {
                case 0:
                    return wares.count;
                case 7:
                    return saggars.count;
                case 8:
                    return saggars.countInKiln();
                case 9:
                    return orders.count;
                case 10:
                    return orders.countSold();
                case 11:
                    return firings;
                case 12:
                    return bought;
                default:
                    return stock;
            }
        }

        boolean isClayBalanced() {
            return bought == stock + wares.sizeOfAll();
        }

        boolean areSalesBalanced() {
            for (int kind = 0; kind < KINDS; kind++) {
                if (wares.countSold(kind) != orders.countSoldOf(kind)) {
                    return false;
                }
            }
            return true;
        }

        boolean areLoadsBalanced() {
            for (int saggar = 0; saggar < saggars.count; saggar++) {
                if (weightAbove(saggar) != weightOfRestOfBung(saggar)) {
                    return false;
                }
            }
            return true;
        }
    }

    /** The wares, by their numbers. */
    private static final class Wares {
        int count;
        final int[] state = new int[MOST_WARES];
        final int[] glaze = new int[MOST_WARES];
        final int[] thickness = new int[MOST_WARES];
        final int[] saggar = new int[MOST_WARES];
        final int[] grade = new int[MOST_WARES];
        private final int[] kind = new int[MOST_WARES];
        private final int[] bone = new int[MOST_WARES];

        void copyFrom(Wares other) {
            count = other.count;
            System.arraycopy(other.state, 0, state, 0, MOST_WARES);
            System.arraycopy(other.glaze, 0, glaze, 0, MOST_WARES);
            System.arraycopy(other.thickness, 0, thickness, 0, MOST_WARES);
            System.arraycopy(other.saggar, 0, saggar, 0, MOST_WARES);
            System.arraycopy(other.grade, 0, grade, 0, MOST_WARES);
            System.arraycopy(other.kind, 0, kind, 0, MOST_WARES);
            System.arraycopy(other.bone, 0, bone, 0, MOST_WARES);
        }

        boolean has(int ware) {
            return ware >= 0 && ware < count;
        }

        void add(int newKind, int newBone) {
            if (count >= MOST_WARES) {
                return;
            }
            kind[count] = newKind;
            bone[count] = newBone;
            state[count] = GREEN;
            glaze[count] = NONE;
            thickness[count] = 0;
            saggar[count] = NONE;
            grade[count] = NOT_FIRED;
            count++;
        }

        int sizeOf(int ware) {
            return SIZES[kind[ware]];
        }

        int needOf(int ware) {
            return 1310 - 3 * (bone[ware] / 2);
        }

        boolean isGlazed(int ware) {
            return glaze[ware] != NONE;
        }

        int meltingHeatOf(int ware) {
            return MELTING_HEATS[glaze[ware]] - 4 * thickness[ware];
        }

        int flowAt(int ware, int heat) {
            if (!isGlazed(ware)) {
                return 0;
            }
            return Math.max(heat - meltingHeatOf(ware), 0) / 10;
        }

        void takeOut(int ware) {
            saggar[ware] = NONE;
            if (state[ware] != FIRED) {
                state[ware] = GREEN;
            } else {
                state[ware] = grade[ware] == WASTER ? BROKEN : IN_STORE;
            }
        }

        boolean isInStore(int ware, int ofKind, int ofGlaze) {
            return state[ware] == IN_STORE && kind[ware] == ofKind && glaze[ware] == ofGlaze;
        }

        int countInStore(int ofKind, int ofGlaze, int ofGrade) {
            int found = 0;
            for (int ware = 0; ware < count; ware++) {
                found += isInStore(ware, ofKind, ofGlaze) && grade[ware] == ofGrade ? 1 : 0;
            }
            return found;
        }

        int countInState(int wanted) {
            int found = 0;
            for (int ware = 0; ware < count; ware++) {
                found += state[ware] == wanted ? 1 : 0;
            }
            return found;
        }

        int countSold(int ofKind) {
            int found = 0;
            for (int ware = 0; ware < count; ware++) {
                found += state[ware] == SOLD && kind[ware] == ofKind ? 1 : 0;
            }
            return found;
        }

        int countOfGrade(int wanted) {
            int found = 0;
            for (int ware = 0; ware < count; ware++) {
                found += grade[ware] == wanted ? 1 : 0;
            }
            return found;
        }

        int countFired() {
            return count - countOfGrade(NOT_FIRED);
        }

        int countIn(int wanted) {
            int found = 0;
            for (int ware = 0; ware < count; ware++) {
                found += saggar[ware] == wanted ? 1 : 0;
            }
            return found;
        }

        int sizeIn(int wanted) {
            int size = 0;
            for (int ware = 0; ware < count; ware++) {
                size += saggar[ware] == wanted ? SIZES[kind[ware]] : 0;
            }
            return size;
        }

        int sizeOfAll() {
            int size = 0;
            for (int ware = 0; ware < count; ware++) {
                size += sizeOf(ware);
            }
            return size;
        }

        int numberOf(int ware, int what) {
            switch (what) {
                case 0:
                    return kind[ware];
                case 1:
                    return bone[ware];
                case 2:
                    return state[ware];
                case 3:
                    return glaze[ware];
                case 4:
                    return thickness[ware];
                case 5:
                    return saggar[ware];
                case 6:
                    return grade[ware];
                default:
                    return needOf(ware);
            }
        }
    }

    /** The saggars, by their numbers, with their places: a bung and a level, or NONE and NONE on the floor. */
    private static final class Saggars {
        int count;
        final int[] bung = new int[MOST_SAGGARS];
        final int[] level = new int[MOST_SAGGARS];

        void copyFrom(Saggars other) {
            count = other.count;
            System.arraycopy(other.bung, 0, bung, 0, MOST_SAGGARS);
            System.arraycopy(other.level, 0, level, 0, MOST_SAGGARS);
        }

        boolean has(int saggar) {
            return saggar >= 0 && saggar < count;
        }

        int add() {
            if (count >= MOST_SAGGARS) {
                return NONE;
            }
            place(count, NONE, NONE);
            count++;
            return count - 1;
        }

        void place(int saggar, int newBung, int newLevel) {
            bung[saggar] = newBung;
            level[saggar] = newLevel;
        }

        boolean isInKiln(int saggar) {
            return saggar >= 0 && saggar < count && bung[saggar] != NONE;
        }

        /** The saggar at a place in the kiln. */
        int at(int wantedBung, int wantedLevel) {
            for (int saggar = 0; saggar < count; saggar++) {
                if (bung[saggar] == wantedBung && level[saggar] == wantedLevel) {
                    return saggar;
                }
            }
            return NONE;
        }

        int above(int saggar) {
            return isInKiln(saggar) ? at(bung[saggar], level[saggar] + 1) : NONE;
        }

        int below(int saggar) {
            return isInKiln(saggar) ? at(bung[saggar], level[saggar] - 1) : NONE;
        }

        int heatThere(int saggar, int heat) {
            return heat - 10 * level[saggar] - 5 * bung[saggar];
        }

        int countInKiln() {
            int found = 0;
            for (int saggar = 0; saggar < count; saggar++) {
                found += isInKiln(saggar) ? 1 : 0;
            }
            return found;
        }
    }

    /** The orders, by their numbers. */
    private static final class Orders {
        int count;
        final int[] glaze = new int[MOST_ORDERS];
        final int[] areSeconds = new int[MOST_ORDERS];
        final int[] sold = new int[MOST_ORDERS];
        private final int[] asked = new int[MOST_ORDERS * KINDS];

        void copyFrom(Orders other) {
            count = other.count;
            System.arraycopy(other.glaze, 0, glaze, 0, MOST_ORDERS);
            System.arraycopy(other.areSeconds, 0, areSeconds, 0, MOST_ORDERS);
            System.arraycopy(other.sold, 0, sold, 0, MOST_ORDERS);
            System.arraycopy(other.asked, 0, asked, 0, MOST_ORDERS * KINDS);
        }

        boolean has(int order) {
            return order >= 0 && order < count;
        }

        int add(int newGlaze, boolean mayBeSeconds) {
            if (count >= MOST_ORDERS) {
                return NONE;
            }
            glaze[count] = newGlaze;
            areSeconds[count] = mayBeSeconds ? 1 : 0;
            sold[count] = 0;
            count++;
            return count - 1;
        }

        void ask(int order, int kind, int many) {
            if (has(order)) {
                asked[order * KINDS + kind] = many;
            }
        }

        int askedOf(int order, int kind) {
            return asked[order * KINDS + kind];
        }

        int countSold() {
            int sets = 0;
            for (int order = 0; order < count; order++) {
                sets += sold[order];
            }
            return sets;
        }

        int countSoldOf(int kind) {
            int wares = 0;
            for (int order = 0; order < count; order++) {
                wares += sold[order] * askedOf(order, kind);
            }
            return wares;
        }

        int numberOf(int order, int what) {
            switch (what) {
                case 4:
                    return glaze[order];
                case 5:
                    return areSeconds[order];
                case 6:
                    return sold[order];
                default:
                    return askedOf(order, what);
            }
        }
    }

    /** Why something was refused, with the reasons that stand behind it. */
    private static final class Reasons {
        int count;
        final int[] reason = new int[MOST_REASONS];
        final int[] detail = new int[MOST_REASONS];

        void copyFrom(Reasons other) {
            count = other.count;
            System.arraycopy(other.reason, 0, reason, 0, MOST_REASONS);
            System.arraycopy(other.detail, 0, detail, 0, MOST_REASONS);
        }

        int refuse(int newReason, int newDetail) {
            note(newReason, newDetail);
            return REFUSED;
        }

        /** Keeps a reason in place of those before. */
        void note(int newReason, int newDetail) {
            reason[0] = newReason;
            detail[0] = newDetail;
            count = 1;
        }

        /** Keeps a reason behind which those before stand. */
        void noteAhead(int newReason, int newDetail) {
            int moved = Math.min(count, MOST_REASONS - 1);
            for (int i = moved; i > 0; i--) {
                reason[i] = reason[i - 1];
                detail[i] = detail[i - 1];
            }
            reason[0] = newReason;
            detail[0] = newDetail;
            count = moved + 1;
        }
    }

    /** The states before the latest changes, in a ring whose rows are used again. */
    private static final class History {
        int count;
        private int next;
        private final Works[] ring = new Works[MOST_UNDOS];

        History() {
            for (int i = 0; i < MOST_UNDOS; i++) {
                ring[i] = new Works();
            }
        }

        /** Keeps a state and hands out the one that stood in its place. */
        Works keep(Works state) {
            Works spare = ring[next];
            ring[next] = state;
            next = (next + 1) % MOST_UNDOS;
            count = Math.min(count + 1, MOST_UNDOS);
            return spare;
        }

        /** Hands out the latest state and keeps a spare one in its place. */
        Works exchangeLatest(Works spare) {
            next = (next + MOST_UNDOS - 1) % MOST_UNDOS;
            Works latest = ring[next];
            ring[next] = spare;
            count = Math.max(count - 1, 0);
            return latest;
        }

        void forget() {
            count = 0;
        }
    }

    /** The text buffer, and the steps of the text that was parsed last. */
    private static final class StepText {
        int length;
        int steps;
        final char[] verbs = new char[MOST_STEPS];
        final int[][] numbers = new int[3][MOST_STEPS];
        private final char[] signs = new char[MOST_SIGNS];
        private int at;

        boolean isFull() {
            return length >= MOST_SIGNS;
        }

        void add(char sign) {
            if (!isFull()) {
                signs[length] = sign;
                length++;
            }
        }

        /** Empties the buffer; the steps stay. */
        void clear() {
            length = 0;
        }

        /** Finds the steps of the text, and answers its fault position, or NONE. */
        int parse() {
            at = 0;
            steps = 0;
            for (int step = 0; step < MOST_STEPS; step++) {
                if (!passStep(step)) {
                    return at;
                }
                steps++;
                if (at >= length) {
                    return NONE;
                }
                if (!passSign(';')) {
                    return at;
                }
            }
            // No more steps than these fit into the buffer, so the text ends with a semicolon here.
            return at;
        }

        private boolean passStep(int step) {
            if (at >= length) {
                return false;
            }
            char verb = signs[at];
            verbs[step] = verb;
            switch (verb) {
                case 't':
                    return passSign(verb) && passNumber(step, 0, 1, 1) && passSign('*') && passNumber(step, 1, 1, 2);
                case 'g':
                    return passSign(verb) && passNumber(step, 0, 1, 2) && passSign('=')
                            && passNumber(step, 1, 1, 1) && passNumber(step, 2, 1, 1);
                case 'p':
                    return passSign(verb) && passNumber(step, 0, 1, 2) && passSign('@') && passNumber(step, 1, 1, 1);
                case 'f':
                    return passSign(verb) && passNumber(step, 0, 4, 4);
                case 'e':
                case 's':
                    return passSign(verb) && passNumber(step, 0, 1, 1);
                default:
                    return false;
            }
        }

        private boolean passSign(char sign) {
            if (at >= length || signs[at] != sign) {
                return false;
            }
            at++;
            return true;
        }

        /** Passes a number of so many digits at least and at most, which is the step's number at a place. */
        private boolean passNumber(int step, int place, int least, int most) {
            int number = 0;
            int digits = 0;
            while (digits < most && at < length && signs[at] >= '0' && signs[at] <= '9') {
                number = 10 * number + (signs[at] - '0');
                digits++;
                at++;
            }
            numbers[place][step] = number;
            return digits >= least;
        }
    }
}
