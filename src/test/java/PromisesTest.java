/** At least one run for each promise: ordinary inputs, the edges that the document names, and wrong inputs. */
public final class PromisesTest {
    private static final Script SCRIPT = new Script();

    /** Four cups and four saucers of glaze 3, thickness 1, and a saggar at the foot of bung 0: firsts from 1235 to 1275. */
    private static final String GLAZED = """
            clay(99) -> 99; cast(0, 4, 50) -> 4; cast(1, 4, 50) -> 8; saggar() -> 0; stack(0, -1, 0) -> 0
            "g0=31;g1=31;g2=31;g3=31;g4=31;g5=31;g6=31;g7=31" -> 47; read() -> 8
            """;

    /** The same with two cups and two saucers of the store, wares 0, 1, 4 and 5, all firsts. */
    private static final String STORED = GLAZED + """
            put(0, 0) -> 4; put(1, 0) -> 2; put(4, 0) -> 1; put(5, 0) -> 0; fire(1250) -> 4; empty(0) -> 4
            """;

    public static void main(String[] args) {
        newObject();
        settingsAndClay();
        casting();
        glazing();
        saggars();
        stacking();
        loadsInStacking();
        unstacking();
        putting();
        firing();
        gradesByWarp();
        gradesByRun();
        firingByPlaces();
        emptying();
        orders();
        selling();
        numbersOfWares();
        numbersOfSaggars();
        loads();
        storeAndSigns();
        heatsAhead();
        bestHeats();
        setsAhead();
        appending();
        reading();
        faults();
        refusals();
        refusalsOfSteps();
        accounts();
        balance();
        shares();
        undoing();
        snapshots();
        fullKiln();
        SCRIPT.end("promises");
    }

    private static void run(String name, String script) {
        SCRIPT.run(name, script);
    }

    private static void newObject() {
        run("promise 1: a new object", """
                account(0) -> 0; account(1) -> 0; account(2) -> 0; account(3) -> 0; account(4) -> 0; account(5) -> 0
                account(6) -> 0; account(7) -> 0; account(8) -> 0; account(9) -> 0; account(10) -> 0; account(11) -> 0
                account(12) -> 0; account(13) -> 0; account(14) -> 3; account(15) -> 40; account(16) -> 16
                account(17) -> 0; account(18) -> 0; isBalanced() -> true; faultPosition() -> -1
                refusal(0, false) -> throws NoSuchElementException; refusal(0, true) -> throws NoSuchElementException
                ware(0, 0) -> throws IndexOutOfBoundsException; saggarOf(0, 0) -> throws IndexOutOfBoundsException
                orderOf(0, 0) -> throws IndexOutOfBoundsException; undo() -> throws IllegalStateException
                restore() -> throws IllegalStateException; meanLoad() -> throws ArithmeticException
                firstShare() -> throws ArithmeticException; bestHeat(false) -> throws NoSuchElementException
                """);
    }

    private static void settingsAndClay() {
        run("promise 2: set answers the value before", """
                set(0, 9) -> 3; set(0, 0) -> 9; set(0, 0) -> 0; set(1, 10) -> 40; set(1, 99) -> 10; set(2, 5) -> 16
                set(2, 40) -> 5; account(14) -> 0; account(15) -> 99; account(16) -> 40; account(18) -> 7
                """);
        run("promise 2: wrong settings and values", """
                set(-1, 10) -> throws IllegalArgumentException; set(3, 10) -> throws IllegalArgumentException
                set(0, -1) -> throws IllegalArgumentException; set(0, 10) -> throws IllegalArgumentException
                set(1, 9) -> throws IllegalArgumentException; set(1, 100) -> throws IllegalArgumentException
                set(2, 4) -> throws IllegalArgumentException; set(2, 41) -> throws IllegalArgumentException
                set(2147483647, 10) -> throws IllegalArgumentException
                set(-2147483648, 10) -> throws IllegalArgumentException
                account(14) -> 3; account(15) -> 40; account(16) -> 16; account(18) -> 0
                """);
        run("promise 3: clay up to 999", """
                clay(0) -> throws IllegalArgumentException; clay(-1) -> throws IllegalArgumentException
                clay(100) -> throws IllegalArgumentException; clay(1) -> 1; 10 x clay(99) -> 991
                clay(99) -> throws UnsupportedOperationException; refusal(0, false) -> 1; refusal(0, true) -> 999
                clay(9) -> throws UnsupportedOperationException; clay(8) -> 999
                clay(1) -> throws UnsupportedOperationException; clay(0) -> throws IllegalArgumentException
                cast(3, 20, 30) -> 20; account(13) -> 919; clay(81) -> throws UnsupportedOperationException
                clay(80) -> 999; account(12) -> 1079; account(13) -> 999
                """);
    }

    private static void casting() {
        run("promise 4: wares take clay by their size", """
                clay(99) -> 99; cast(0, 1, 30) -> 1; account(13) -> 97; cast(1, 1, 60) -> 2; account(13) -> 96
                cast(2, 1, 31) -> 3; account(13) -> 93; cast(3, 1, 59) -> 4; account(13) -> 89
                ware(0, 0) -> 0; ware(1, 0) -> 1; ware(2, 0) -> 2; ware(3, 0) -> 3; ware(3, 1) -> 59; ware(3, 2) -> 0
                ware(3, 3) -> -1; ware(3, 4) -> 0; ware(3, 5) -> -1; ware(3, 6) -> 0; account(1) -> 4
                """);
        run("promise 4: too little clay", """
                cast(1, 1, 50) -> throws UnsupportedOperationException; refusal(0, false) -> 2; refusal(0, true) -> 0
                clay(10) -> 10; cast(3, 3, 50) -> throws UnsupportedOperationException; refusal(0, true) -> 10
                account(0) -> 0; account(13) -> 10; cast(0, 5, 50) -> 5; account(13) -> 0
                """);
        run("promise 4: at most 60 wares, which is told first", """
                clay(61) -> 61; cast(1, 20, 50) -> 20; cast(1, 20, 50) -> 40; cast(1, 19, 50) -> 59
                cast(3, 2, 50) -> throws UnsupportedOperationException; refusal(0, false) -> 1; refusal(0, true) -> 60
                cast(3, 1, 50) -> throws UnsupportedOperationException; refusal(0, false) -> 2; refusal(0, true) -> 2
                cast(1, 1, 50) -> 60; cast(1, 1, 50) -> throws UnsupportedOperationException; refusal(0, false) -> 1
                account(0) -> 60; account(13) -> 1
                """);
        run("promise 4: wrong numbers", """
                cast(-1, 1, 50) -> throws IllegalArgumentException; cast(4, 1, 50) -> throws IllegalArgumentException
                cast(0, 0, 50) -> throws IllegalArgumentException; cast(0, 21, 50) -> throws IllegalArgumentException
                cast(0, 1, 29) -> throws IllegalArgumentException; cast(0, 1, 61) -> throws IllegalArgumentException
                cast(0, -2147483648, 50) -> throws IllegalArgumentException
                cast(0, 2147483647, 50) -> throws IllegalArgumentException; account(0) -> 0
                refusal(0, false) -> throws NoSuchElementException
                """);
    }

    private static void glazing() {
        run("promise 5: melting heats", """
                clay(9) -> 9; cast(1, 1, 50) -> 1; glaze(0, 0, 1) -> 1176; glaze(0, 0, 9) -> 1144; glaze(0, 1, 1) -> 1196
                glaze(0, 2, 3) -> 1208; glaze(0, 3, 9) -> 1204; ware(0, 3) -> 3; ware(0, 4) -> 9
                """);
        run("promise 5: wrong inputs, in their order", """
                clay(9) -> 9; cast(1, 1, 50) -> 1; glaze(1, 4, 1) -> throws IndexOutOfBoundsException
                glaze(-1, 0, 1) -> throws IndexOutOfBoundsException; glaze(0, -1, 1) -> throws IllegalArgumentException
                glaze(0, 4, 1) -> throws IllegalArgumentException; glaze(0, 0, 0) -> throws IllegalArgumentException
                glaze(0, 0, 10) -> throws IllegalArgumentException; ware(0, 3) -> -1; ware(0, 4) -> 0; account(18) -> 2
                """);
        run("promise 5: only green wares", STORED + """
                order(1, 0, 0, 0, 3, false) -> 0; put(2, 0) -> 4
                glaze(2, 4, 1) -> throws IllegalArgumentException
                glaze(2, 0, 1) -> throws UnsupportedOperationException; refusal(0, false) -> 3; refusal(0, true) -> 1
                fire(1000) -> 0; glaze(2, 0, 1) -> throws UnsupportedOperationException; refusal(0, true) -> 2
                glaze(0, 0, 1) -> throws UnsupportedOperationException; refusal(0, true) -> 3; sell(0) -> 1
                glaze(0, 0, 1) -> throws UnsupportedOperationException; refusal(0, true) -> 4; empty(0) -> 0
                glaze(2, 0, 1) -> throws UnsupportedOperationException; refusal(0, true) -> 5; ware(2, 3) -> 3
                """);
    }

    private static void saggars() {
        run("promise 6: at most 8 saggars", """
                saggar() -> 0; saggar() -> 1; saggar() -> 2; saggar() -> 3; saggar() -> 4; saggar() -> 5; saggar() -> 6
                saggar() -> 7; saggar() -> throws UnsupportedOperationException; refusal(0, false) -> 1
                refusal(0, true) -> 8; account(7) -> 8; account(8) -> 0; saggarOf(7, 1) -> -1; saggarOf(7, 2) -> -1
                """);
    }

    private static void stacking() {
        run("promise 7: at the foot and on one another", """
                4 x saggar() -> 3; stack(0, -1, 3) -> 0; stack(1, 0, -7) -> 1; stack(2, 1, 99) -> 2; stack(3, -1, 0) -> 0
                saggarOf(2, 1) -> 2; saggarOf(2, 2) -> 3; saggarOf(1, 2) -> 3; saggarOf(3, 2) -> 0; account(8) -> 4
                """);
        run("promise 7: wrong inputs, in their order", """
                stack(0, -1, 0) -> throws IndexOutOfBoundsException; saggar() -> 0
                stack(-1, -1, 0) -> throws IndexOutOfBoundsException; stack(1, 1, 0) -> throws IndexOutOfBoundsException
                stack(0, 1, 0) -> throws IndexOutOfBoundsException; stack(0, -2, 0) -> throws IndexOutOfBoundsException
                stack(0, -1, -1) -> throws IndexOutOfBoundsException; stack(0, -1, 4) -> throws IndexOutOfBoundsException
                stack(0, 0, 4) -> throws IllegalArgumentException; stack(0, -1, 0) -> 0
                stack(0, 0, 0) -> throws IllegalArgumentException; stack(0, -1, 4) -> throws IndexOutOfBoundsException
                stack(0, -1, 1) -> throws UnsupportedOperationException; refusal(0, false) -> 5; refusal(0, true) -> 0
                """);
        run("promise 7: refusals in their order", """
                5 x saggar() -> 4; stack(1, 2, 0) -> throws UnsupportedOperationException; refusal(0, false) -> 5
                refusal(0, true) -> 2; stack(3, -1, 2) -> 0; stack(3, 2, 0) -> throws UnsupportedOperationException
                refusal(0, false) -> 5; refusal(0, true) -> 3; stack(4, -1, 2) -> throws UnsupportedOperationException
                refusal(0, false) -> 6; refusal(0, true) -> 3; stack(4, 3, 0) -> 1
                stack(2, 3, 0) -> throws UnsupportedOperationException; refusal(0, false) -> 6; refusal(0, true) -> 4
                saggarOf(2, 1) -> -1; account(8) -> 2
                """);
    }

    private static void loadsInStacking() {
        run("promise 7: the load of the one below counts, up to the strength", """
                set(2, 5) -> 16; 3 x saggar() -> 2; clay(9) -> 9; cast(0, 1, 50) -> 1; cast(1, 1, 50) -> 2
                put(0, 1) -> 4; stack(0, -1, 0) -> 0; stack(1, 0, 0) -> 1; load(0) -> 5; unstack(1) -> 1
                put(1, 1) -> 3; stack(1, 0, 0) -> throws UnsupportedOperationException; refusal(0, false) -> 7
                refusal(0, true) -> 0; stack(1, -1, 1) -> 0; stack(2, 0, 0) -> 1
                """);
        run("promise 7: of several loads the one at the lowest level is told", """
                set(2, 9) -> 16; 8 x saggar() -> 7; stack(3, -1, 1) -> 0; stack(5, 3, 0) -> 1; stack(1, 5, 0) -> 2
                stack(2, 1, 0) -> 3; stack(0, 2, 0) -> throws UnsupportedOperationException; refusal(0, false) -> 7
                refusal(0, true) -> 3; load(3) -> 9; set(2, 5) -> 9; load(3) -> 9; load(5) -> 6
                stack(0, 2, 0) -> throws UnsupportedOperationException; refusal(0, true) -> 3
                stack(0, -1, 0) -> 0; stack(4, 0, 0) -> 1; stack(6, 4, 0) -> throws UnsupportedOperationException
                refusal(0, true) -> 0; stack(6, 0, 0) -> throws UnsupportedOperationException; refusal(0, false) -> 6
                """);
    }

    private static void unstacking() {
        run("promise 8: unstack", """
                unstack(0) -> throws IndexOutOfBoundsException; 3 x saggar() -> 2
                unstack(-1) -> throws IndexOutOfBoundsException; unstack(3) -> throws IndexOutOfBoundsException
                unstack(2) -> throws UnsupportedOperationException; refusal(0, false) -> 5; refusal(0, true) -> 2
                stack(2, -1, 1) -> 0; stack(0, 2, 0) -> 1; unstack(2) -> throws UnsupportedOperationException
                refusal(0, false) -> 8; refusal(0, true) -> 0; saggarOf(2, 1) -> 0; clay(9) -> 9; cast(0, 1, 50) -> 1
                put(0, 0) -> 4; unstack(0) -> 1; ware(0, 5) -> 0; ware(0, 2) -> 1; saggarOf(0, 1) -> -1
                saggarOf(0, 2) -> -1; unstack(2) -> 0; account(8) -> 0; stack(0, -1, 3) -> 0; saggarOf(0, 5) -> 5
                """);
    }

    private static void putting() {
        run("promise 9: room for 6", """
                clay(99) -> 99; cast(3, 2, 50) -> 2; cast(2, 2, 50) -> 4; cast(0, 2, 50) -> 6; cast(1, 2, 50) -> 8
                2 x saggar() -> 1; put(0, 0) -> 2; put(1, 0) -> throws UnsupportedOperationException
                refusal(0, false) -> 4; refusal(0, true) -> 2; put(2, 0) -> throws UnsupportedOperationException
                put(6, 0) -> 1; put(4, 0) -> throws UnsupportedOperationException; refusal(0, true) -> 1
                put(7, 0) -> 0; ware(7, 2) -> 1; ware(7, 5) -> 0; ware(1, 2) -> 0; ware(1, 5) -> -1
                put(2, 1) -> 3; put(3, 1) -> 0; put(4, 1) -> throws UnsupportedOperationException; refusal(0, true) -> 0
                """);
        run("promise 9: wrong inputs and other states", """
                put(0, 0) -> throws IndexOutOfBoundsException; clay(9) -> 9; cast(0, 3, 50) -> 3
                put(0, 0) -> throws IndexOutOfBoundsException; saggar() -> 0
                put(3, 0) -> throws IndexOutOfBoundsException; put(-1, 0) -> throws IndexOutOfBoundsException
                put(0, 1) -> throws IndexOutOfBoundsException; put(0, -1) -> throws IndexOutOfBoundsException
                put(0, 0) -> 4; put(0, 0) -> throws UnsupportedOperationException; refusal(0, false) -> 3
                refusal(0, true) -> 1; stack(0, -1, 0) -> 0; fire(1250) -> 0; put(1, 0) -> 2
                put(0, 0) -> throws UnsupportedOperationException; refusal(0, true) -> 2; empty(0) -> 1
                put(0, 0) -> throws UnsupportedOperationException; refusal(0, true) -> 3; put(1, 0) -> 4
                """);
        run("promise 9: loads below, of which the lowest is told, but not the saggar's own", """
                clay(99) -> 99; cast(3, 4, 50) -> 4; set(2, 7) -> 16; 3 x saggar() -> 2; stack(2, -1, 0) -> 0
                stack(1, 2, 0) -> 1; put(0, 1) -> 2; load(2) -> 7; put(1, 2) -> 2; set(2, 10) -> 7; stack(0, 1, 0) -> 2
                put(2, 0) -> throws UnsupportedOperationException; refusal(0, false) -> 7; refusal(0, true) -> 2
                set(2, 14) -> 10; put(2, 0) -> 2; load(2) -> 14; load(1) -> 7; set(2, 5) -> 14; load(2) -> 14
                cast(1, 2, 50) -> 6; put(4, 0) -> throws UnsupportedOperationException; refusal(0, true) -> 2
                put(4, 2) -> 1; put(3, 2) -> throws UnsupportedOperationException; refusal(0, false) -> 4
                put(3, 0) -> throws UnsupportedOperationException; refusal(0, false) -> 4
                put(0, 0) -> throws UnsupportedOperationException; refusal(0, false) -> 3
                """);
    }

    private static void firing() {
        run("promise 10: wrong heats, and nothing to fire", """
                fire(999) -> throws IllegalArgumentException; fire(1401) -> throws IllegalArgumentException
                fire(1000) -> throws UnsupportedOperationException; refusal(0, false) -> 9; refusal(0, true) -> 0
                clay(9) -> 9; cast(0, 2, 50) -> 2; saggar() -> 0; put(0, 0) -> 4
                fire(1400) -> throws UnsupportedOperationException; stack(0, -1, 0) -> 0; fire(1000) -> 0
                fire(1000) -> throws UnsupportedOperationException; put(1, 0) -> 2; fire(1400) -> 0; ware(0, 6) -> 3
                account(11) -> 2
                """);
        run("promise 10: firsts, counted in this firing alone", GLAZED + """
                put(0, 0) -> 4; put(1, 0) -> 2; fire(1250) -> 2; ware(0, 2) -> 2; ware(0, 6) -> 1; put(4, 0) -> 1
                fire(1300) -> 0; ware(4, 6) -> 2; ware(0, 6) -> 1; ware(2, 2) -> 0; ware(2, 6) -> 0; account(11) -> 2
                """);
        run("promise 10: saggars on the floor are not fired, and the fired ones not again", GLAZED + """
                saggar() -> 1; put(0, 0) -> 4; put(1, 1) -> 4; fire(1250) -> 1; ware(1, 2) -> 1; ware(1, 6) -> 0
                unstack(0) -> 0; ware(0, 2) -> 2; fire(1250) -> throws UnsupportedOperationException
                stack(0, -1, 3) -> 0; fire(1250) -> throws UnsupportedOperationException; stack(1, 0, 0) -> 1
                fire(1400) -> 0; ware(0, 6) -> 1; ware(1, 6) -> 3
                """);
    }

    private static void gradesByWarp() {
        run("promise 10: the need and the warp", """
                set(0, 9) -> 3; clay(99) -> 99; cast(0, 1, 50) -> 1; cast(0, 1, 51) -> 2; cast(0, 1, 30) -> 3
                cast(0, 1, 60) -> 4; glaze(0, 3, 1) -> 1236; glaze(1, 3, 1) -> 1236
                ware(0, 7) -> 1235; ware(1, 7) -> 1235; ware(2, 7) -> 1265; ware(3, 7) -> 1220
                wouldBe(0, 1234) -> 3; wouldBe(0, 1235) -> 1; wouldBe(0, 1275) -> 1; wouldBe(0, 1276) -> 2
                wouldBe(0, 1315) -> 2; wouldBe(0, 1316) -> 3; wouldBe(3, 1219) -> 3; wouldBe(3, 1220) -> 2
                wouldBe(3, 1300) -> 2; wouldBe(3, 1301) -> 3; wouldBe(2, 1264) -> 3; wouldBe(2, 1265) -> 2
                set(1, 10) -> 40; wouldBe(0, 1245) -> 1; wouldBe(0, 1246) -> 2; wouldBe(0, 1255) -> 2; wouldBe(0, 1256) -> 3
                saggar() -> 0; stack(0, -1, 0) -> 0; put(0, 0) -> 4; put(1, 0) -> 2; put(3, 0) -> 0
                fire(1245) -> 2; ware(0, 6) -> 1; ware(1, 6) -> 1; ware(3, 6) -> 3
                """);
    }

    private static void gradesByRun() {
        run("promise 10: the run of a glaze", """
                set(1, 99) -> 40; clay(99) -> 99; cast(0, 3, 50) -> 3; glaze(0, 3, 1) -> 1236; glaze(1, 0, 9) -> 1144
                wouldBe(0, 1235) -> 1; wouldBe(0, 1275) -> 1; wouldBe(0, 1276) -> 2; wouldBe(0, 1305) -> 2
                wouldBe(0, 1306) -> 3; wouldBe(2, 1306) -> 2; wouldBe(2, 1433) -> 2; wouldBe(2, 1434) -> 3
                set(0, 0) -> 3; wouldBe(2, 1245) -> 2; wouldBe(0, 1245) -> 1; wouldBe(0, 1246) -> 3; wouldBe(0, 1236) -> 1
                set(0, 9) -> 0; wouldBe(0, 1335) -> 2; wouldBe(0, 1334) -> 1; wouldBe(1, 1235) -> 1
                wouldBe(1, 1243) -> 1; wouldBe(1, 1244) -> 2; wouldBe(1, 1333) -> 2; wouldBe(1, 1334) -> 3
                """);
    }

    private static void firingByPlaces() {
        run("promise 10: each saggar has its own heat", """
                set(0, 0) -> 3; set(1, 10) -> 40; set(2, 40) -> 16; clay(99) -> 99; cast(1, 4, 50) -> 4
                "g0=39;g1=39;g2=39;g3=31" -> 23; read() -> 4; 4 x saggar() -> 3; stack(0, -1, 0) -> 0; stack(1, 0, 0) -> 1
                stack(2, 1, 0) -> 2; stack(3, -1, 3) -> 0; put(0, 0) -> 5; put(1, 1) -> 5; put(2, 2) -> 5; put(3, 3) -> 5
                fire(1255) -> 1; ware(0, 6) -> 3; ware(1, 6) -> 3; ware(2, 6) -> 3; ware(3, 6) -> 1; undo() -> 7
                ware(3, 2) -> 1; ware(3, 6) -> 0; account(11) -> 0; fire(1249) -> 0; ware(3, 6) -> 3; undo() -> 7
                fire(1250) -> 1; ware(3, 6) -> 1
                """);
    }

    private static void emptying() {
        run("promise 11: firsts and seconds to the store, wasters broken, the rest green", GLAZED + """
                saggar() -> 1; put(0, 0) -> 4; put(4, 0) -> 3; fire(1250) -> 2; put(1, 0) -> 1
                empty(1) -> throws UnsupportedOperationException; refusal(0, false) -> 9; refusal(0, true) -> 0
                empty(0) -> 2; ware(0, 2) -> 3; ware(4, 2) -> 3; ware(1, 2) -> 0; ware(1, 3) -> 3; ware(1, 4) -> 1
                ware(0, 5) -> -1; ware(1, 5) -> -1; saggarOf(0, 0) -> 6; empty(0) -> throws UnsupportedOperationException
                put(1, 0) -> 4; fire(1300) -> 0; put(2, 0) -> 2; fire(1000) -> 0; put(3, 0) -> 0; unstack(0) -> 0
                empty(0) -> 1; ware(1, 2) -> 3; ware(1, 6) -> 2; ware(2, 2) -> 5; ware(2, 6) -> 3; ware(3, 2) -> 0
                """);
        run("promise 11: wrong saggars, and wares that are but green again", """
                empty(0) -> throws IndexOutOfBoundsException; saggar() -> 0; empty(-1) -> throws IndexOutOfBoundsException
                empty(1) -> throws IndexOutOfBoundsException; clay(9) -> 9; cast(0, 1, 50) -> 1; put(0, 0) -> 4
                empty(0) -> 0; ware(0, 2) -> 0; ware(0, 6) -> 0; account(18) -> 5
                """);
    }

    private static void orders() {
        run("promise 12: at most 6 orders", """
                order(1, 2, 3, 4, 2, true) -> 0; order(6, 6, 6, 6, 0, false) -> 1; order(0, 0, 0, 1, 3, false) -> 2
                order(0, 0, 1, 0, 3, false) -> 3; order(2, 0, 0, 2, 3, false) -> 4; order(1, 0, 0, 0, 3, false) -> 5
                order(1, 0, 0, 0, 3, false) -> throws UnsupportedOperationException; refusal(0, false) -> 1
                refusal(0, true) -> 6; order(0, 0, 0, 0, 3, false) -> throws IllegalArgumentException; account(9) -> 6
                """);
        run("promise 12: wrong numbers", """
                order(0, 0, 0, 0, 0, true) -> throws IllegalArgumentException
                order(7, 0, 0, 0, 0, true) -> throws IllegalArgumentException
                order(0, 7, 0, 0, 0, true) -> throws IllegalArgumentException
                order(0, 0, 7, 0, 0, true) -> throws IllegalArgumentException
                order(0, 0, 0, 7, 0, true) -> throws IllegalArgumentException
                order(-1, 1, 1, 1, 0, true) -> throws IllegalArgumentException
                order(1, -1, 1, 1, 0, true) -> throws IllegalArgumentException
                order(1, 1, -1, 1, 0, true) -> throws IllegalArgumentException
                order(1, 1, 1, -1, 0, true) -> throws IllegalArgumentException
                order(1, 1, 1, 1, -1, true) -> throws IllegalArgumentException
                order(1, 1, 1, 1, 4, true) -> throws IllegalArgumentException; account(9) -> 0
                """);
        run("promise 18: numbers of an order", """
                orderOf(0, 0) -> throws IndexOutOfBoundsException; order(1, 2, 3, 4, 2, true) -> 0
                order(0, 0, 6, 0, 0, false) -> 1; orderOf(0, 0) -> 1; orderOf(0, 1) -> 2; orderOf(0, 2) -> 3
                orderOf(0, 3) -> 4; orderOf(0, 4) -> 2; orderOf(0, 5) -> 1; orderOf(0, 6) -> 0; orderOf(1, 2) -> 6
                orderOf(1, 0) -> 0; orderOf(1, 4) -> 0; orderOf(1, 5) -> 0; orderOf(1, -1) -> throws IllegalArgumentException
                orderOf(1, 7) -> throws IllegalArgumentException; orderOf(2, 7) -> throws IndexOutOfBoundsException
                orderOf(-1, 0) -> throws IndexOutOfBoundsException
                """);
    }

    private static void selling() {
        run("promise 13: the lowest numbers, and how many sets so far", STORED + """
                sell(0) -> throws IndexOutOfBoundsException; order(1, 1, 0, 0, 3, false) -> 0; order(1, 0, 0, 0, 3, false) -> 1
                sell(-1) -> throws IndexOutOfBoundsException; sell(2) -> throws IndexOutOfBoundsException; sell(0) -> 1
                ware(0, 2) -> 4; ware(4, 2) -> 4; ware(1, 2) -> 3; ware(5, 2) -> 3; sell(0) -> 2; ware(1, 2) -> 4
                ware(5, 2) -> 4; sell(0) -> throws UnsupportedOperationException; refusal(0, false) -> 10
                refusal(0, true) -> 0; refusal(1, false) -> 12; refusal(1, true) -> 0; orderOf(0, 6) -> 2
                sell(1) -> throws UnsupportedOperationException; refusal(0, true) -> 1; account(10) -> 2
                """);
        run("promise 13: a set is sold whole or not at all", STORED + """
                order(1, 3, 0, 0, 3, true) -> 0; order(0, 1, 0, 2, 3, true) -> 1; order(2, 2, 0, 0, 2, true) -> 2
                sell(0) -> throws UnsupportedOperationException; refusal(1, true) -> 1; account(5) -> 0
                sell(1) -> throws UnsupportedOperationException; refusal(0, true) -> 1; refusal(1, true) -> 3
                sell(2) -> throws UnsupportedOperationException; refusal(1, true) -> 0; account(4) -> 4
                """);
        run("promise 13: seconds alike by their numbers, if they may be taken", GLAZED + """
                put(0, 0) -> 4; put(1, 0) -> 2; fire(1300) -> 0; put(2, 0) -> 0; fire(1250) -> 1; empty(0) -> 3
                ware(0, 6) -> 2; ware(1, 6) -> 2; ware(2, 6) -> 1; order(1, 0, 0, 0, 3, false) -> 0
                order(1, 0, 0, 0, 3, true) -> 1; sell(0) -> 1; ware(0, 2) -> 3; ware(2, 2) -> 4
                sell(0) -> throws UnsupportedOperationException; sell(1) -> 1; ware(0, 2) -> 4; ware(1, 2) -> 3
                undo() -> 7; undo() -> 6; sell(1) -> 1; ware(0, 2) -> 4; sell(1) -> 2; sell(1) -> 3; ware(2, 2) -> 4
                """);
        run("promise 13: wares without a glaze are never sold", """
                clay(9) -> 9; cast(0, 1, 50) -> 1; saggar() -> 0; stack(0, -1, 0) -> 0; put(0, 0) -> 4; fire(1250) -> 0
                empty(0) -> 1; store(0, -1, true) -> 1; order(1, 0, 0, 0, 0, true) -> 0
                sell(0) -> throws UnsupportedOperationException; sets(0) -> 0; setsAgain(0) -> 0
                """);
    }

    private static void numbersOfWares() {
        run("promise 14: numbers of a ware", STORED + """
                ware(8, 0) -> throws IndexOutOfBoundsException; ware(-1, 0) -> throws IndexOutOfBoundsException
                ware(8, 8) -> throws IndexOutOfBoundsException; ware(0, 8) -> throws IllegalArgumentException
                ware(0, -1) -> throws IllegalArgumentException; ware(4, 0) -> 1; ware(4, 1) -> 50; ware(4, 2) -> 3
                ware(4, 3) -> 3; ware(4, 4) -> 1; ware(4, 5) -> -1; ware(4, 6) -> 1; ware(4, 7) -> 1235
                put(6, 0) -> 5; ware(6, 5) -> 0; ware(6, 6) -> 0; fire(1300) -> 0; ware(6, 5) -> 0; ware(6, 6) -> 2
                order(1, 0, 0, 0, 3, false) -> 0; sell(0) -> 1; ware(0, 6) -> 1; ware(0, 2) -> 4
                """);
    }

    private static void numbersOfSaggars() {
        run("promise 15: numbers of a saggar", """
                saggarOf(0, 0) -> throws IndexOutOfBoundsException; 3 x saggar() -> 2; clay(9) -> 9; cast(0, 1, 50) -> 1
                cast(3, 1, 50) -> 2; stack(2, -1, 2) -> 0; stack(0, 2, 0) -> 1; put(0, 0) -> 4; put(1, 0) -> 0
                saggarOf(0, 0) -> 0; saggarOf(0, 1) -> 1; saggarOf(0, 2) -> 2; saggarOf(0, 3) -> -1; saggarOf(0, 4) -> 2
                saggarOf(0, 5) -> 9; saggarOf(0, 6) -> 2; saggarOf(2, 0) -> 6; saggarOf(2, 1) -> 0; saggarOf(2, 2) -> 2
                saggarOf(2, 3) -> 0; saggarOf(2, 4) -> -1; saggarOf(2, 5) -> 3; saggarOf(2, 6) -> 0; saggarOf(1, 1) -> -1
                saggarOf(1, 2) -> -1; saggarOf(1, 3) -> -1; saggarOf(1, 4) -> -1
                saggarOf(1, -1) -> throws IllegalArgumentException; saggarOf(1, 7) -> throws IllegalArgumentException
                saggarOf(3, 7) -> throws IndexOutOfBoundsException; saggarOf(-1, 0) -> throws IndexOutOfBoundsException
                fire(1270) -> 0; saggarOf(0, 6) -> 2; saggarOf(0, 0) -> 0; empty(0) -> 2; saggarOf(0, 6) -> 0
                """);
    }

    private static void loads() {
        run("promises 16 and 17: loads by two ways", """
                load(0) -> throws IndexOutOfBoundsException; loadAgain(0) -> throws IndexOutOfBoundsException
                set(2, 40) -> 16; 5 x saggar() -> 4; clay(50) -> 50; cast(3, 4, 50) -> 4; stack(1, -1, 1) -> 0
                stack(4, 1, 0) -> 1; stack(0, 4, 0) -> 2; stack(2, -1, 0) -> 0; put(0, 0) -> 2; put(1, 4) -> 2
                put(2, 1) -> 2; put(3, 3) -> 2; load(1) -> 14; loadAgain(1) -> 14; load(4) -> 7; loadAgain(4) -> 7
                load(0) -> 0; loadAgain(0) -> 0; load(2) -> 0; loadAgain(2) -> 0; load(3) -> 0; loadAgain(3) -> 0
                load(5) -> throws IndexOutOfBoundsException; load(-1) -> throws IndexOutOfBoundsException
                loadAgain(5) -> throws IndexOutOfBoundsException; loadAgain(-1) -> throws IndexOutOfBoundsException
                fire(1275) -> 0; load(1) -> 14; empty(0) -> 1; load(1) -> 10; loadAgain(1) -> 10; isBalanced() -> true
                """);
    }

    private static void storeAndSigns() {
        run("promise 19: signs", STORED + """
                sign(8) -> throws IndexOutOfBoundsException; sign(-1) -> throws IndexOutOfBoundsException; sign(0) -> i
                sign(2) -> g; put(2, 0) -> 4; sign(2) -> s; fire(1000) -> 0; sign(2) -> f; empty(0) -> 0; sign(2) -> x
                order(1, 0, 0, 0, 3, false) -> 0; sell(0) -> 1; sign(0) -> o
                """);
        run("promise 20: the store by kind, glaze and grade", STORED + """
                store(0, 3, false) -> 2; store(0, 3, true) -> 0; store(1, 3, false) -> 2; store(2, 3, false) -> 0
                store(0, 2, false) -> 0; store(0, -1, false) -> 0; cast(0, 1, 50) -> 9; put(2, 0) -> 4; put(8, 0) -> 2
                fire(1300) -> 0; store(0, 3, true) -> 0; empty(0) -> 2; store(0, 3, true) -> 1; store(0, 3, false) -> 2
                store(0, -1, true) -> 1; store(0, -1, false) -> 0; store(3, 0, true) -> 0
                store(-1, 0, true) -> throws IllegalArgumentException; store(4, 0, true) -> throws IllegalArgumentException
                store(0, -2, true) -> throws IllegalArgumentException; store(0, 4, true) -> throws IllegalArgumentException
                """);
    }

    private static void heatsAhead() {
        run("promise 21: the heat at a saggar", """
                heatAt(0, 999) -> throws IndexOutOfBoundsException; 3 x saggar() -> 2
                heatAt(3, 1200) -> throws IndexOutOfBoundsException; heatAt(-1, 1200) -> throws IndexOutOfBoundsException
                heatAt(0, 999) -> throws IllegalArgumentException; heatAt(0, 1401) -> throws IllegalArgumentException
                heatAt(0, 1200) -> throws NoSuchElementException; stack(0, -1, 3) -> 0; stack(1, 0, 0) -> 1
                stack(2, 1, 0) -> 2; heatAt(0, 1000) -> 985; heatAt(1, 1400) -> 1375; heatAt(2, 1200) -> 1165
                heatAt(0, 1401) -> throws IllegalArgumentException
                """);
        run("promise 22: what a ware would be, whatever its state is", STORED + """
                wouldBe(8, 1200) -> throws IndexOutOfBoundsException; wouldBe(-1, 3000) -> throws IndexOutOfBoundsException
                wouldBe(0, -1) -> throws IllegalArgumentException; wouldBe(0, 2001) -> throws IllegalArgumentException
                wouldBe(0, 0) -> 3; wouldBe(0, 2000) -> 3; wouldBe(0, 1250) -> 1; wouldBe(0, 1280) -> 2
                wouldBe(2, 1250) -> 1; put(2, 0) -> 4; wouldBe(2, 1250) -> 1; fire(1000) -> 0; wouldBe(2, 1250) -> 1
                ware(2, 6) -> 3; empty(0) -> 0; wouldBe(2, 1280) -> 2; ware(2, 6) -> 3
                """);
    }

    private static void bestHeats() {
        run("promise 23: the lowest of the best heats", GLAZED + """
                bestHeat(true) -> throws NoSuchElementException; put(0, 0) -> 4; bestHeat(false) -> 1240; bestHeat(true) -> 1
                unstack(0) -> 0; bestHeat(false) -> throws NoSuchElementException; stack(0, -1, 1) -> 0
                bestHeat(false) -> 1240; saggar() -> 1; stack(1, 0, 0) -> 1; put(1, 1) -> 4; put(2, 1) -> 2
                bestHeat(false) -> 1250; bestHeat(true) -> 3; set(1, 10) -> 40; bestHeat(false) -> 1250
                bestHeat(true) -> 3; unstack(1) -> 1; stack(1, -1, 3) -> 0; bestHeat(false) -> 1250; fire(1250) -> 3
                bestHeat(false) -> throws NoSuchElementException; account(18) -> 8
                """);
        run("promise 23: no ware would become a first", """
                clay(9) -> 9; cast(0, 1, 50) -> 1; saggar() -> 0; stack(0, -1, 0) -> 0; put(0, 0) -> 4
                bestHeat(false) -> 1000; bestHeat(true) -> 0
                """);
        run("promise 23: the highest heat is tried, too", """
                clay(9) -> 9; cast(0, 1, 30) -> 1; glaze(0, 3, 1) -> 1236; set(0, 9) -> 3; set(2, 40) -> 16
                8 x saggar() -> 7; stack(0, -1, 3) -> 0; stack(1, 0, 0) -> 1; stack(2, 1, 0) -> 2; stack(3, 2, 0) -> 3
                stack(4, 3, 0) -> 4; stack(5, 4, 0) -> 5; stack(6, 5, 0) -> 6; stack(7, 6, 0) -> 7; put(0, 7) -> 4
                heatAt(7, 1350) -> 1265; bestHeat(false) -> 1350; bestHeat(true) -> 1
                """);
    }

    private static void setsAhead() {
        run("promises 24 and 25: sets by two ways", STORED + """
                sets(0) -> throws IndexOutOfBoundsException; setsAgain(0) -> throws IndexOutOfBoundsException
                sets(-1) -> throws IndexOutOfBoundsException; setsAgain(-1) -> throws IndexOutOfBoundsException
                order(1, 1, 0, 0, 3, false) -> 0; order(0, 1, 0, 0, 3, true) -> 1; order(2, 1, 0, 0, 3, true) -> 2
                order(1, 0, 1, 0, 3, true) -> 3; order(1, 0, 0, 0, 2, true) -> 4; order(0, 3, 0, 0, 3, false) -> 5
                sets(0) -> 2; setsAgain(0) -> 2; sets(1) -> 2; setsAgain(1) -> 2; sets(2) -> 1; setsAgain(2) -> 1
                sets(3) -> 0; setsAgain(3) -> 0; sets(4) -> 0; setsAgain(4) -> 0; sets(5) -> 0; setsAgain(5) -> 0
                refusal(0, false) -> throws NoSuchElementException; account(4) -> 4; account(5) -> 0; account(18) -> 8
                sell(0) -> 1; sets(0) -> 1; setsAgain(0) -> 1; orderOf(0, 6) -> 1
                """);
        run("promises 24 and 25: seconds count if they may be taken", GLAZED + """
                put(0, 0) -> 4; put(1, 0) -> 2; fire(1300) -> 0; put(2, 0) -> 0; fire(1250) -> 1; empty(0) -> 3
                order(1, 0, 0, 0, 3, true) -> 0; order(1, 0, 0, 0, 3, false) -> 1; sets(0) -> 3; setsAgain(0) -> 3
                sets(1) -> 1; setsAgain(1) -> 1
                """);
    }

    private static void appending() {
        run("promise 26: up to 60 characters of any kind", """
                append(0) -> 1; append(65535) -> 2; append(255) -> 3; 57 x append(116) -> 60; account(17) -> 60
                append(116) -> throws IllegalStateException; account(17) -> 60; account(18) -> 0
                read() -> throws IllegalArgumentException; account(17) -> 0; append(116) -> 1
                """);
    }

    private static void reading() {
        run("promise 27: all kinds of steps", """
                clay(50) -> 50; saggar() -> 0; stack(0, -1, 0) -> 0; order(1, 0, 0, 0, 3, false) -> 0
                "t0*2;g00=31;g1=31;p0@0;p01@0;f1250;e0;s0;s0" -> 43; read() -> 9; faultPosition() -> -1; account(17) -> 0
                account(0) -> 2; account(13) -> 46; ware(1, 1) -> 50; ware(1, 2) -> 4; account(5) -> 2; account(10) -> 2
                account(11) -> 1; account(18) -> 5; undo() -> 4; account(0) -> 0; account(13) -> 50; account(10) -> 0
                account(11) -> 0; "t3*12" -> 5; read() -> 1; account(0) -> 12; account(13) -> 2
                """);
        run("promise 27: the whole or nothing", """
                clay(9) -> 9; "t0*2;t1*1;t1*5" -> 14; read() -> throws UnsupportedOperationException; account(17) -> 0
                account(0) -> 0; account(13) -> 9; account(18) -> 1; faultPosition() -> -1; refusal(0, false) -> 11
                refusal(0, true) -> 2; refusal(1, false) -> 2; refusal(1, true) -> 4; "t0*2;t1*5" -> 9; read() -> 2
                account(0) -> 7; read() -> throws IllegalArgumentException; faultPosition() -> 0; account(18) -> 2
                """);
        run("promise 27: a text with a fault does nothing", """
                clay(9) -> 9; "t0*1;t0*1;" -> 10; read() -> throws IllegalArgumentException; faultPosition() -> 10
                account(0) -> 0; account(17) -> 0; account(18) -> 1; refusal(0, false) -> throws NoSuchElementException
                """);
        run("promise 27: steps that answer 0 are done, too", """
                clay(9) -> 9; saggar() -> 0; "t0*3;p0@0;p1@0;p2@0" -> 19; read() -> 4; "e0" -> 2; read() -> 1
                ware(2, 2) -> 0; "p0@0;e0;p1@0" -> 12; read() -> 3; ware(1, 2) -> 1; ware(0, 2) -> 0
                """);
        run("promise 27: twenty steps fill the buffer", """
                "e0;e0;e0;e0;e0;e0;e0;e0;e0;e0;e0;e0;e0;e0;e0;e0;e0;e0;e0;e0" -> 59
                read() -> throws UnsupportedOperationException; refusal(0, true) -> 0; refusal(1, false) -> 13
                "e0;e0;e0;e0;e0;e0;e0;e0;e0;e0;e0;e0;e0;e0;e0;e0;e0;e0;e0;e0;" -> 60
                read() -> throws IllegalArgumentException; faultPosition() -> 60
                clay(99) -> 99; saggar() -> 0; stack(0, -1, 0) -> 0; order(0, 1, 0, 0, 3, true) -> 0
                "t1*6;g0=31;g1=31;g2=31;g3=31;p0@0;p1@0;p2@0;p3@0;f1250;e0;s0" -> 60; read() -> 12; sets(0) -> 3
                "s0;s0;s0" -> 8; read() -> 3; account(10) -> 4
                """);
    }

    private static void faults() {
        fault("", 0);
        fault(";", 0);
        fault("a", 0);
        fault("t", 1);
        fault("tt", 1);
        fault("t1", 2);
        fault("t12", 2);
        fault("t1*", 3);
        fault("t1*;", 3);
        fault("t1*1;", 5);
        fault("t1*1,", 4);
        fault("t1*12;x", 6);
        fault("t1*123", 5);
        fault("g", 1);
        fault("g=", 1);
        fault("g1", 2);
        fault("g12", 3);
        fault("g123", 3);
        fault("g1=", 3);
        fault("g1=1", 4);
        fault("g1=1;", 4);
        fault("g1=123", 5);
        fault("p", 1);
        fault("p@", 1);
        fault("p1=", 2);
        fault("p12@", 4);
        fault("p123", 3);
        fault("p12@12", 5);
        fault("f", 1);
        fault("f125", 4);
        fault("f125;", 4);
        fault("f12500", 5);
        fault("e", 1);
        fault("e12", 2);
        fault("s", 1);
        fault("s1;", 3);
        fault("s1;;", 3);
        fault("s1 ", 2);
        fault(" s1", 0);
        fault("T1*1", 0);
        fault("t/*1", 1);
        fault("t:*1", 1);
        run("promise 28: what an earlier text left behind does not count", """
                "t0*1;e0" -> 7; read() -> throws UnsupportedOperationException; "t0" -> 2
                read() -> throws IllegalArgumentException; faultPosition() -> 2; "t0*" -> 3
                read() -> throws IllegalArgumentException; faultPosition() -> 3; "t0*1;" -> 5
                read() -> throws IllegalArgumentException; faultPosition() -> 5; "t" -> 1
                read() -> throws IllegalArgumentException; faultPosition() -> 1; read() -> throws IllegalArgumentException
                faultPosition() -> 0
                """);
        run("promise 28: -1 without a fault, also if the text is refused", """
                faultPosition() -> -1; "x" -> 1; faultPosition() -> -1; read() -> throws IllegalArgumentException
                faultPosition() -> 0; "e0" -> 2; faultPosition() -> 0; read() -> throws UnsupportedOperationException
                faultPosition() -> -1; "e" -> 1; read() -> throws IllegalArgumentException; clay(9) -> 9; save() -> 0
                undo() -> 0; restore() -> 0; faultPosition() -> 1; clay(9) -> 18; "t0*1" -> 4; read() -> 1
                faultPosition() -> -1
                """);
    }

    private static void fault(String text, int position) {
        String appended = text.isEmpty() ? "" : "\"" + text + "\" -> " + text.length() + "\n";
        run("promise 28: " + text, appended
                + "read() -> throws IllegalArgumentException; account(17) -> 0; faultPosition() -> " + position);
    }

    private static void refusals() {
        run("promise 29: depths", """
                refusal(-1, false) -> throws IllegalArgumentException; refusal(3, true) -> throws IllegalArgumentException
                refusal(2, false) -> throws NoSuchElementException; order(0, 1, 0, 0, 0, true) -> 0; order(1, 0, 0, 0, 0, true) -> 1
                sell(1) -> throws UnsupportedOperationException; refusal(0, false) -> 10; refusal(0, true) -> 1
                refusal(1, false) -> 12; refusal(1, true) -> 0; refusal(2, false) -> throws NoSuchElementException
                refusal(2, true) -> throws NoSuchElementException; refusal(3, false) -> throws IllegalArgumentException
                fire(1000) -> throws UnsupportedOperationException; refusal(0, false) -> 9; refusal(0, true) -> 0
                refusal(1, false) -> throws NoSuchElementException
                """);
        run("promise 29: reasons stay, whatever comes without a refusal", """
                clay(9) -> 9; save() -> 0; cast(3, 3, 50) -> throws UnsupportedOperationException; clay(0) -> throws IllegalArgumentException
                glaze(9, 9, 9) -> throws IndexOutOfBoundsException; undo() -> 0; restore() -> 0; clay(9) -> 18
                read() -> throws IllegalArgumentException; "t0*1" -> 4; read() -> 1; refusal(0, false) -> 2
                refusal(0, true) -> 9; refusal(1, false) -> throws NoSuchElementException
                """);
    }

    private static void refusalsOfSteps() {
        run("promise 29: behind a step stands its reason with what is behind it", """
                clay(99) -> 99; order(0, 1, 0, 0, 0, true) -> 0; "t0*1;s0" -> 7; read() -> throws UnsupportedOperationException
                refusal(0, false) -> 11; refusal(0, true) -> 1; refusal(1, false) -> 10; refusal(1, true) -> 0
                refusal(2, false) -> 12; refusal(2, true) -> 1; "t0*1;e0" -> 7; read() -> throws UnsupportedOperationException
                refusal(0, true) -> 1; refusal(1, false) -> 13; refusal(1, true) -> 0; refusal(2, false) -> throws NoSuchElementException
                saggar() -> 0; "e0" -> 2; read() -> throws UnsupportedOperationException; refusal(0, true) -> 0
                refusal(1, false) -> 9; refusal(1, true) -> 0; refusal(2, true) -> throws NoSuchElementException
                """);
        run("promise 29: steps whose method would throw another exception", """
                clay(99) -> 99; cast(0, 2, 50) -> 2; saggar() -> 0; "t4*1" -> 4; read() -> throws UnsupportedOperationException
                refusal(1, false) -> 13; "t0*0" -> 4; read() -> throws UnsupportedOperationException; refusal(1, false) -> 13
                "t0*21" -> 5; read() -> throws UnsupportedOperationException; refusal(1, false) -> 13; "g2=01" -> 5
                read() -> throws UnsupportedOperationException; refusal(1, false) -> 13; "g1=41" -> 5
                read() -> throws UnsupportedOperationException; refusal(1, false) -> 13; "g1=00" -> 5
                read() -> throws UnsupportedOperationException; refusal(1, false) -> 13; "p2@0" -> 4
                read() -> throws UnsupportedOperationException; refusal(1, false) -> 13; "p1@1" -> 4
                read() -> throws UnsupportedOperationException; refusal(1, false) -> 13; "f1401" -> 5
                read() -> throws UnsupportedOperationException; refusal(1, false) -> 13; "f1400" -> 5
                read() -> throws UnsupportedOperationException; refusal(1, false) -> 9; "e1" -> 2
                read() -> throws UnsupportedOperationException; refusal(1, false) -> 13; "s0" -> 2
                read() -> throws UnsupportedOperationException; refusal(1, false) -> 13; refusal(0, true) -> 0
                "g0=11;p0@0;g0=11" -> 16; read() -> throws UnsupportedOperationException; refusal(0, true) -> 2
                refusal(1, false) -> 3; refusal(1, true) -> 1; ware(0, 3) -> -1; account(18) -> 3
                """);
    }

    private static void accounts() {
        run("promise 30: accounts", STORED + """
                account(-1) -> throws IllegalArgumentException; account(19) -> throws IllegalArgumentException
                put(2, 0) -> 4; fire(1000) -> 0; saggar() -> 1; put(3, 1) -> 4; order(1, 0, 0, 0, 3, false) -> 0
                sell(0) -> 1; "t0" -> 2; account(0) -> 8; account(1) -> 2; account(2) -> 1; account(3) -> 1; account(4) -> 3
                account(5) -> 1; account(6) -> 0; account(7) -> 2; account(8) -> 1; account(9) -> 1; account(10) -> 1
                account(11) -> 2; account(12) -> 99; account(13) -> 87; account(14) -> 3; account(15) -> 40
                account(16) -> 16; account(17) -> 2; account(18) -> 8; empty(0) -> 0; account(6) -> 1; account(3) -> 0
                """);
    }

    private static void balance() {
        run("promise 31: all is well after each kind of change", STORED + """
                isBalanced() -> true; order(1, 2, 0, 0, 3, false) -> 0; sell(0) -> 1; isBalanced() -> true; save() -> 8
                2 x saggar() -> 2; stack(1, 0, 0) -> 1; put(2, 1) -> 4; isBalanced() -> true; fire(1400) -> 0; empty(1) -> 0
                isBalanced() -> true; undo() -> 7; undo() -> 6; isBalanced() -> true; restore() -> 8; isBalanced() -> true
                """);
    }

    private static void shares() {
        run("promise 32: the share of firsts", GLAZED + """
                firstShare() -> throws ArithmeticException; put(0, 0) -> 4; put(1, 0) -> 2; fire(1250) -> 2
                firstShare() -> 1.0; put(4, 0) -> 1; fire(1300) -> 0; firstShare() -> 0.6666666666666666; empty(0) -> 3
                put(2, 0) -> 4; fire(1000) -> 0; firstShare() -> 0.5; empty(0) -> 0; firstShare() -> 0.5
                order(1, 0, 0, 0, 3, false) -> 0; sell(0) -> 1; firstShare() -> 0.5
                """);
        run("promise 33: the mean load", """
                meanLoad() -> throws ArithmeticException; 4 x saggar() -> 3; meanLoad() -> throws ArithmeticException
                stack(0, -1, 0) -> 0; meanLoad() -> 0.0; stack(1, 0, 0) -> 1; meanLoad() -> 1.5; stack(2, -1, 1) -> 0
                meanLoad() -> 1.0; clay(9) -> 9; cast(3, 1, 50) -> 1; put(0, 1) -> 2; meanLoad() -> 2.3333333; unstack(1) -> 1
                meanLoad() -> 0.0
                """);
    }

    private static void undoing() {
        run("promise 34: the latest 8", """
                clay(1) -> 1; clay(2) -> 3; set(0, 3) -> 3; saggar() -> 0; stack(0, -1, 0) -> 0; cast(1, 1, 50) -> 1
                glaze(0, 3, 1) -> 1236; put(0, 0) -> 5; fire(1250) -> 1; account(18) -> 8; empty(0) -> 1
                order(0, 1, 0, 0, 3, false) -> 0; sell(0) -> 1; account(18) -> 8; undo() -> 7; ware(0, 2) -> 3
                orderOf(0, 6) -> 0; undo() -> 6; account(9) -> 0; undo() -> 5; ware(0, 2) -> 2; undo() -> 4; ware(0, 2) -> 1
                ware(0, 6) -> 0; account(11) -> 0; undo() -> 3; ware(0, 2) -> 0; ware(0, 5) -> -1; undo() -> 2
                ware(0, 3) -> -1; ware(0, 4) -> 0; undo() -> 1; account(0) -> 0; account(13) -> 3; undo() -> 0
                account(8) -> 0; account(7) -> 1; undo() -> throws IllegalStateException; account(12) -> 3
                """);
        run("promise 34: undone once, then changed anew", """
                clay(1) -> 1; clay(2) -> 3; undo() -> 1; clay(5) -> 6; account(18) -> 2; undo() -> 1; account(13) -> 1
                undo() -> 0; account(13) -> 0; account(12) -> 0; undo() -> throws IllegalStateException
                clay(1) -> 1; clay(1) -> 2; undo() -> 1; clay(3) -> 4; clay(3) -> 7; clay(3) -> 10; undo() -> 3
                account(13) -> 7; undo() -> 2; account(13) -> 4; undo() -> 1; account(13) -> 1; undo() -> 0
                10 x clay(1) -> 10; undo() -> 7; 3 x clay(1) -> 12; undo() -> 7; 7 x undo() -> 0; account(13) -> 4
                """);
        run("promise 34: refused calls, asking, appending and saving are no changes", """
                clay(1) -> 1; clay(0) -> throws IllegalArgumentException; cast(0, 1, 50) -> throws UnsupportedOperationException
                append(120) -> 1; read() -> throws IllegalArgumentException; save() -> 0; account(18) -> 1; "e0" -> 2
                read() -> throws UnsupportedOperationException; append(120) -> 1; undo() -> 0; account(17) -> 1
                faultPosition() -> -1; refusal(0, false) -> 11
                """);
        run("promise 34: unstack and texts are undone, too", """
                clay(9) -> 9; 2 x saggar() -> 1; stack(0, -1, 2) -> 0; stack(1, 0, 0) -> 1; unstack(1) -> 1; undo() -> 5
                saggarOf(1, 1) -> 1; saggarOf(1, 2) -> 2; "t0*1;p0@1" -> 9; read() -> 2; account(18) -> 6; undo() -> 5
                account(0) -> 0; saggarOf(1, 6) -> 0; account(17) -> 0
                """);
    }

    private static void snapshots() {
        run("promises 35 and 36: all that changes can change", """
                restore() -> throws IllegalStateException; clay(99) -> 99; cast(1, 2, 50) -> 2; saggar() -> 0; save() -> 2
                account(18) -> 3; set(0, 9) -> 3; set(1, 10) -> 40; set(2, 5) -> 16; glaze(0, 3, 1) -> 1236
                put(0, 0) -> 5; stack(0, -1, 1) -> 0; order(0, 1, 0, 0, 3, true) -> 0; fire(1245) -> 1; empty(0) -> 1
                sell(0) -> 1; clay(1) -> 98; cast(0, 1, 50) -> 3; saggar() -> 1; restore() -> 2; account(0) -> 2
                account(1) -> 2; account(7) -> 1; account(8) -> 0; account(9) -> 0; account(10) -> 0; account(11) -> 0
                account(12) -> 99; account(13) -> 97; account(14) -> 3; account(15) -> 40; account(16) -> 16
                account(18) -> 0; undo() -> throws IllegalStateException; ware(0, 3) -> -1; ware(0, 6) -> 0
                firstShare() -> throws ArithmeticException; clay(1) -> 98; undo() -> 0; account(13) -> 97
                """);
        run("promises 35 and 36: the snapshot stays, and a later one takes its place", """
                save() -> 0; clay(5) -> 5; restore() -> 0; account(13) -> 0; clay(7) -> 7; restore() -> 0; account(13) -> 0
                clay(9) -> 9; cast(1, 3, 50) -> 3; save() -> 3; undo() -> 1; undo() -> 0; restore() -> 3; account(13) -> 6
                cast(1, 1, 50) -> 4; glaze(0, 0, 1) -> 1176; undo() -> 1; restore() -> 3; ware(0, 3) -> -1
                """);
        run("promises 35 and 36: the text buffer, the fault position and the reasons stay", """
                append(116) -> 1; save() -> 0; "0*1" -> 4; restore() -> 0; account(17) -> 4
                read() -> throws UnsupportedOperationException; restore() -> 0; refusal(1, false) -> 2; account(17) -> 0
                append(120) -> 1; read() -> throws IllegalArgumentException; restore() -> 0; faultPosition() -> 0
                refusal(0, false) -> 11
                """);
    }

    /** Every call with as many wares, saggars, orders and characters as there can be: nothing ends beyond a row. */
    private static void fullKiln() {
        String nines = "f1250;".repeat(9);
        run("promises 27 and 28: full buffers that end in several ways", """
                "NINESf1250;" -> 60; read() -> throws IllegalArgumentException; faultPosition() -> 60
                "NINESt1*12t" -> 60; read() -> throws IllegalArgumentException; faultPosition() -> 59
                "NINESe0;e0t" -> 60; read() -> throws IllegalArgumentException; faultPosition() -> 59
                "NINESe0;f12" -> 60; read() -> throws IllegalArgumentException; faultPosition() -> 60
                "NINESs0;p1@" -> 60; read() -> throws IllegalArgumentException; faultPosition() -> 60
                "NINESs0;t1*" -> 60; read() -> throws IllegalArgumentException; faultPosition() -> 60
                "NINESs0;g1=" -> 60; read() -> throws IllegalArgumentException; faultPosition() -> 60
                "NINESs0;s0;" -> 60; read() -> throws IllegalArgumentException; faultPosition() -> 60
                "NINESg10=31" -> 60; read() -> throws UnsupportedOperationException; faultPosition() -> -1
                refusal(0, true) -> 0; refusal(1, false) -> 9
                """.replace("NINES", nines));
        run("a full kiln", """
                set(2, 40) -> 16; clay(99) -> 99; cast(1, 20, 50) -> 20; cast(1, 20, 50) -> 40; cast(1, 20, 50) -> 60
                8 x saggar() -> 7; 5 x order(0, 1, 0, 0, 3, true) -> 4; order(0, 2, 0, 0, 3, true) -> 5
                stack(0, -1, 0) -> 0; stack(1, 0, 0) -> 1; stack(2, 1, 0) -> 2; stack(3, 2, 0) -> 3; stack(4, 3, 0) -> 4
                stack(5, 4, 0) -> 5; stack(6, 5, 0) -> 6; stack(7, 6, 0) -> 7; load(0) -> 21; loadAgain(0) -> 21
                loadAgain(7) -> 0; saggarOf(7, 3) -> -1; saggarOf(7, 4) -> 6; saggarOf(0, 4) -> -1; meanLoad() -> 10.5
                glaze(59, 3, 1) -> 1236; put(59, 7) -> 5; put(58, 7) -> 4; glaze(57, 3, 1) -> 1236; put(57, 0) -> 5
                bestHeat(false) -> 1240; bestHeat(true) -> 1; fire(1310) -> 1; firstShare() -> 0.3333333333333333
                fire(1310) -> throws UnsupportedOperationException; bestHeat(true) -> throws NoSuchElementException
                empty(7) -> 2; empty(0) -> 0; store(1, 3, false) -> 1; store(1, -1, true) -> 1; store(1, 3, true) -> 0
                sets(5) -> 0; setsAgain(5) -> 0; sell(5) -> throws UnsupportedOperationException; refusal(1, true) -> 1
                sets(4) -> 1; setsAgain(4) -> 1; sell(4) -> 1; ware(59, 2) -> 4; ware(58, 2) -> 3; ware(57, 2) -> 5
                account(10) -> 1; orderOf(5, 6) -> 0; isBalanced() -> true; sign(59) -> o; save() -> 60; undo() -> 7
                ware(59, 2) -> 3; restore() -> 60; ware(59, 2) -> 4; unstack(7) -> 7; isBalanced() -> true
                "t1*1" -> 4; read() -> throws UnsupportedOperationException; refusal(1, false) -> 1; refusal(1, true) -> 60
                """);
        run("a full store, of which the last order takes sets", """
                set(2, 40) -> 16; clay(99) -> 99; 3 x cast(1, 20, 50) -> 60; saggar() -> 0; stack(0, -1, 0) -> 0
                5 x order(0, 3, 0, 0, 3, false) -> 4; order(0, 2, 0, 0, 3, false) -> 5
                "g59=31;g58=31;g57=31;g56=31;g55=31" -> 34; read() -> 5; put(59, 0) -> 5; put(58, 0) -> 4; put(57, 0) -> 3
                put(56, 0) -> 2; put(55, 0) -> 1; fire(1250) -> 5; empty(0) -> 5; sets(5) -> 2; setsAgain(5) -> 2
                sell(5) -> 1; ware(55, 2) -> 4; ware(56, 2) -> 4; ware(57, 2) -> 3; sell(0) -> 1; ware(59, 2) -> 4
                account(10) -> 2; isBalanced() -> true
                """);
    }
}
