/** A test for each sentence of "Terms" that names a boundary: the first and the last that is, and the next that is not. */
public final class TermsTest {
    private static final Sentences SENTENCES = new Sentences();

    /** Five saucers with the share of bone 50, of which the first two have glaze 3: firsts from 1235 to 1275. */
    private static final String SAUCERS = """
            clay(99) -> 99; cast(1, 5, 50) -> 5; glaze(0, 3, 1) -> 1236; glaze(1, 3, 1) -> 1236
            saggar() -> 0; stack(0, -1, 0) -> 0
            """;

    public static void main(String[] args) {
        numbers();
        clayAndSettings();
        wares();
        saggars();
        places();
        loads();
        heats();
        firings();
        wasters();
        secondsAndFirsts();
        glazesThatRun();
        emptying();
        orders();
        sales();
        texts();
        steps();
        signsOfTexts();
        faults();
        orderOfReasons();
        reasonsOfWares();
        reasonsOfPlaces();
        reasonsOfSetsAndTexts();
        changes();
        undoing();
        exceptions();
        whatStays();
        inDoubt();
        SENTENCES.untested("Terms", "Clay and settings.", "Wares.", "Saggars.", "Heats.", "Firings.", "Emptying.",
                "Orders.", "Texts.", "Reasons.", "Undo.", "Exceptions.", "In doubt, too.");
        SENTENCES.needAll("Terms", "Examples.");
        SENTENCES.end("terms");
    }

    private static void test(String promises, String sentence, String calls) {
        SENTENCES.test("Terms", promises, sentence, calls);
    }

    private static void numbers() {
        SENTENCES.test("What it is", "promise 1", "An object is used for at most 512 calls after it has been made", """
                503 x set(0, 3) -> 3; clay(5) -> 5; cast(1, 5, 50) -> 5; saggar() -> 0; stack(0, -1, 0) -> 0
                put(0, 0) -> 5
                fire(1250) -> 0; empty(0) -> 1; isBalanced() -> true; account(18) -> 8
                """);
        test("promises 14, 22 and 25", "All divisions of whole numbers are rounded down.", SAUCERS + """
                cast(1, 1, 51) -> 6; ware(5, 7) -> 1235; wouldBe(0, 1275) -> 1; set(0, 0) -> 3; wouldBe(0, 1245) -> 1
                set(0, 3) -> 0; put(0, 0) -> 5; put(1, 0) -> 4; glaze(2, 3, 1) -> 1236; put(2, 0) -> 3; fire(1250) -> 3
                empty(0) -> 3; order(0, 2, 0, 0, 3, false) -> 0; setsAgain(0) -> 1
                """);
    }

    private static void clayAndSettings() {
        test("promise 3", "There is a stock of clay, at first 0, up to 999.", """
                account(13) -> 0; cast(1, 1, 50) -> throws UnsupportedOperationException; 10 x clay(99) -> 990
                clay(9) -> 999
                account(13) -> 999; clay(1) -> throws UnsupportedOperationException; account(13) -> 999
                cast(1, 1, 50) -> 1; clay(1) -> 999
                """);
        test("promise 2", "0, the run, 0 to 9, 3", """
                account(14) -> 3; set(0, -1) -> throws IllegalArgumentException
                set(0, 10) -> throws IllegalArgumentException
                set(0, 0) -> 3; set(0, 9) -> 0; account(14) -> 9
                """);
        test("promise 2", "1, the warp, 10 to 99, 40", """
                account(15) -> 40; set(1, 9) -> throws IllegalArgumentException
                set(1, 100) -> throws IllegalArgumentException
                set(1, 10) -> 40; set(1, 99) -> 10; account(15) -> 99
                """);
        test("promise 2", "2, the strength, 5 to 40, 16", """
                account(16) -> 16; set(2, 4) -> throws IllegalArgumentException
                set(2, 41) -> throws IllegalArgumentException
                set(2, 5) -> 16; set(2, 40) -> 5; account(16) -> 40
                """);
    }

    private static void wares() {
        test("promise 4", "At most 60 wares are thrown", """
                clay(80) -> 80; 3 x cast(1, 20, 50) -> 60; cast(1, 1, 50) -> throws UnsupportedOperationException
                account(0) -> 60; account(13) -> 20
                """);
        test("promises 4 to 36", "At most 60 wares are thrown", """
                # All that looks at wares looks at the last one, and no farther.
                clay(99) -> 99; 3 x cast(1, 20, 50) -> 60; saggar() -> 0; stack(0, -1, 0) -> 0
                fire(1250) -> throws UnsupportedOperationException; bestHeat(true) -> throws NoSuchElementException
                empty(0) -> throws UnsupportedOperationException; firstShare() -> throws ArithmeticException
                order(0, 1, 0, 0, 3, true) -> 0; sell(0) -> throws UnsupportedOperationException; isBalanced() -> true
                glaze(59, 3, 1) -> 1236; put(59, 0) -> 5; saggarOf(0, 6) -> 1; saggarOf(0, 0) -> 5
                bestHeat(false) -> 1240
                bestHeat(true) -> 1; fire(1250) -> 1; firstShare() -> 1.0; empty(0) -> 1; store(1, 3, false) -> 1
                sets(0) -> 1
                setsAgain(0) -> 1; sell(0) -> 1; ware(59, 2) -> 4; sign(59) -> o; account(1) -> 59; account(5) -> 1
                isBalanced() -> true; save() -> 60; undo() -> 7; restore() -> 60; ware(59, 2) -> 4
                """);
        test("promises 4 and 14", "numbered from 0", """
                clay(80) -> 80; ware(0, 0) -> throws IndexOutOfBoundsException; cast(0, 1, 50) -> 1
                2 x cast(1, 20, 50) -> 41
                cast(1, 18, 50) -> 59; cast(3, 1, 50) -> 60; ware(0, 0) -> 0; ware(1, 0) -> 1; ware(58, 0) -> 1
                ware(59, 0) -> 3
                ware(-1, 0) -> throws IndexOutOfBoundsException; ware(60, 0) -> throws IndexOutOfBoundsException
                """);
        test("promise 4", "A ware has a kind, 0 cup, 1 saucer, 2 plate or 3 bowl", """
                clay(99) -> 99; cast(-1, 1, 50) -> throws IllegalArgumentException
                cast(4, 1, 50) -> throws IllegalArgumentException
                cast(0, 1, 50) -> 1; cast(3, 1, 50) -> 2; ware(0, 0) -> 0; ware(1, 0) -> 3
                """);
        test("promises 4, 9 and 15", "with the size 2, 1, 3 or 4, which is also the clay that it takes and its weight",
                """
                clay(10) -> 10; cast(0, 1, 50) -> 1; account(13) -> 8; cast(1, 1, 50) -> 2; account(13) -> 7
                cast(2, 1, 50) -> 3; account(13) -> 4; cast(3, 1, 50) -> 4; account(13) -> 0; 4 x saggar() -> 3
                put(0, 0) -> 4; put(1, 1) -> 5; put(2, 2) -> 3; put(3, 3) -> 2; saggarOf(0, 5) -> 5; saggarOf(1, 5) -> 4
                saggarOf(2, 5) -> 6; saggarOf(3, 5) -> 7
                """);
        test("promise 4", "a share of bone from 30 to 60", """
                clay(9) -> 9; cast(1, 1, 29) -> throws IllegalArgumentException
                cast(1, 1, 61) -> throws IllegalArgumentException
                cast(1, 1, 30) -> 1; cast(1, 1, 60) -> 2; ware(0, 1) -> 30; ware(1, 1) -> 60
                """);
        test("promise 14", "It has a state: 0 green, 1 in a saggar, 2 fired and in a saggar, 3 in the store, 4 sold, or 5 broken",
                SAUCERS + """
                put(0, 0) -> 5; order(0, 1, 0, 0, 3, false) -> 0; ware(1, 2) -> 0; ware(0, 2) -> 1; fire(1250) -> 1
                ware(0, 2) -> 2; empty(0) -> 1; ware(0, 2) -> 3; sell(0) -> 1; ware(0, 2) -> 4; put(1, 0) -> 5
                fire(1000) -> 0; empty(0) -> 0; ware(1, 2) -> 5
                """);
        test("promises 5 and 14", "no glaze at first, or a glaze from 0 to 3 with a thickness from 1 to 9", """
                clay(9) -> 9; cast(1, 1, 50) -> 1; ware(0, 3) -> -1; ware(0, 4) -> 0
                glaze(0, -1, 5) -> throws IllegalArgumentException; glaze(0, 4, 5) -> throws IllegalArgumentException
                glaze(0, 2, 0) -> throws IllegalArgumentException; glaze(0, 2, 10) -> throws IllegalArgumentException
                ware(0, 3) -> -1; ware(0, 4) -> 0; glaze(0, 0, 1) -> 1176; ware(0, 3) -> 0; ware(0, 4) -> 1
                glaze(0, 3, 9) -> 1204; ware(0, 3) -> 3; ware(0, 4) -> 9
                """);
    }

    private static void saggars() {
        test("promise 6", "At most 8 saggars are kept, numbered from 0", """
                saggarOf(0, 0) -> throws IndexOutOfBoundsException; saggar() -> 0; 7 x saggar() -> 7; saggarOf(7, 0) -> 6
                saggar() -> throws UnsupportedOperationException; account(7) -> 8
                saggarOf(8, 0) -> throws IndexOutOfBoundsException; saggarOf(-1, 0) -> throws IndexOutOfBoundsException
                """);
        test("promises 6 to 36", "At most 8 saggars are kept", """
                # All that looks at saggars looks at the last one, and no farther.
                8 x saggar() -> 7; meanLoad() -> throws ArithmeticException; stack(7, -1, 3) -> 0; stack(0, 7, 0) -> 1
                saggarOf(7, 3) -> 0; saggarOf(0, 4) -> 7; load(7) -> 3; loadAgain(7) -> 3; load(0) -> 0; loadAgain(0) -> 0
                meanLoad() -> 1.5; account(7) -> 8; account(8) -> 2; clay(1) -> 1; cast(1, 1, 50) -> 1; put(0, 7) -> 5
                bestHeat(true) -> 0; fire(1250) -> 0; empty(7) -> 1; isBalanced() -> true; unstack(0) -> 1
                unstack(7) -> 0
                account(8) -> 0; isBalanced() -> true
                """);
        test("promises 9 and 15", "each with the weight 3 and room for wares with 6 of size together", """
                clay(99) -> 99; cast(1, 7, 50) -> 7; cast(3, 1, 50) -> 8; cast(2, 1, 50) -> 9; 2 x saggar() -> 1
                saggarOf(0, 5) -> 3; saggarOf(0, 0) -> 6; put(0, 0) -> 5; put(1, 0) -> 4; put(2, 0) -> 3; put(3, 0) -> 2
                put(4, 0) -> 1; put(5, 0) -> 0; put(6, 0) -> throws UnsupportedOperationException; saggarOf(0, 5) -> 9
                put(7, 1) -> 2; put(8, 1) -> throws UnsupportedOperationException; saggarOf(1, 5) -> 7
                saggarOf(1, 6) -> 1
                """);
        test("promises 6 and 15", "A saggar stands on the floor, as all do at first", """
                clay(9) -> 9; saggar() -> 0; stack(0, -1, 1) -> 0; 7 x saggar() -> 7; saggarOf(1, 1) -> -1
                saggarOf(1, 2) -> -1; saggarOf(7, 1) -> -1; saggarOf(7, 2) -> -1; account(8) -> 1
                heatAt(7, 1200) -> throws NoSuchElementException
                """);
    }

    private static void places() {
        test("promise 7", "at the foot of one of the bungs, 0 to 3", """
                2 x saggar() -> 1; stack(0, -1, -1) -> throws IndexOutOfBoundsException
                stack(0, -1, 4) -> throws IndexOutOfBoundsException; stack(0, -1, 0) -> 0; stack(1, -1, 3) -> 0
                saggarOf(0, 2) -> 0; saggarOf(1, 2) -> 3
                """);
        test("promise 7", "on another saggar in the kiln, on which at most one can stand", """
                4 x saggar() -> 3; stack(1, 0, 0) -> throws UnsupportedOperationException; stack(0, -1, 0) -> 0
                stack(1, 0, 0) -> 1; stack(2, 0, 0) -> throws UnsupportedOperationException; stack(2, 1, 0) -> 2
                stack(3, 1, 0) -> throws UnsupportedOperationException; account(8) -> 3; saggarOf(0, 3) -> 1
                saggarOf(1, 3) -> 2
                """);
        test("promise 7", "at the foot of a bung there is at most one", """
                5 x saggar() -> 4; stack(0, -1, 0) -> 0; stack(1, -1, 0) -> throws UnsupportedOperationException
                saggarOf(1, 1) -> -1; stack(1, -1, 1) -> 0; stack(2, -1, 2) -> 0; stack(3, -1, 3) -> 0
                stack(4, -1, 3) -> throws UnsupportedOperationException; unstack(3) -> 0; stack(4, -1, 3) -> 0
                """);
        test("promises 7 and 8", "A saggar that is stood onto the floor or into the kiln takes its wares with it.",
                SAUCERS + """
                saggar() -> 1; put(0, 1) -> 5; put(1, 1) -> 4; stack(1, 0, 0) -> 1; ware(0, 5) -> 1; ware(0, 2) -> 1
                saggarOf(1, 6) -> 2; load(0) -> 5; fire(1260) -> 2; unstack(1) -> 1; ware(1, 5) -> 1; ware(1, 2) -> 2
                saggarOf(1, 5) -> 5; saggarOf(1, 0) -> 4; empty(1) -> 2
                """);
        test("promises 7, 8 and 15", "The level of a saggar is the number of those below it.", """
                set(2, 40) -> 16; 8 x saggar() -> 7; stack(3, -1, 2) -> 0; stack(1, 3, 2) -> 1; stack(7, 1, 2) -> 2
                stack(0, 7, 2) -> 3; stack(2, 0, 2) -> 4; stack(4, 2, 2) -> 5; stack(5, 4, 2) -> 6; stack(6, 5, 2) -> 7
                saggarOf(3, 1) -> 0; saggarOf(1, 1) -> 1; saggarOf(6, 1) -> 7; unstack(6) -> 7; saggarOf(6, 1) -> -1
                stack(6, -1, 0) -> 0
                """);
    }

    private static void loads() {
        test("promises 15, 16 and 17", "The weight of a saggar with what it holds is 3 and the weights of its wares", """
                clay(99) -> 99; cast(0, 1, 50) -> 1; cast(1, 1, 50) -> 2; cast(2, 1, 50) -> 3; saggar() -> 0
                saggarOf(0, 5) -> 3; put(0, 0) -> 4; saggarOf(0, 5) -> 5; put(1, 0) -> 3; saggarOf(0, 5) -> 6
                put(2, 0) -> 0
                saggarOf(0, 5) -> 9; stack(0, -1, 0) -> 0; fire(1250) -> 0; saggarOf(0, 5) -> 9; empty(0) -> 3
                saggarOf(0, 5) -> 3
                """);
        test("promises 16 and 17", "its load is the weight of all saggars above it, with what they hold", SAUCERS + """
                3 x saggar() -> 3; load(0) -> 0; loadAgain(0) -> 0; stack(1, 0, 0) -> 1; stack(2, 1, 0) -> 2
                stack(3, -1, 1) -> 0; load(0) -> 6; loadAgain(0) -> 6; put(0, 2) -> 5; put(1, 0) -> 5; put(2, 3) -> 5
                load(0) -> 7; loadAgain(0) -> 7; load(1) -> 4; loadAgain(1) -> 4; load(2) -> 0; loadAgain(2) -> 0
                """);
        test("promises 7 and 9", "Nothing is stood or put so that a load would become greater than the strength.", """
                clay(99) -> 99; cast(2, 2, 50) -> 2; cast(1, 9, 50) -> 11; set(2, 6) -> 16; 4 x saggar() -> 3
                put(0, 1) -> 3
                put(2, 1) -> 2; stack(0, -1, 0) -> 0; stack(1, 0, 0) -> throws UnsupportedOperationException; load(0) -> 0
                set(2, 7) -> 6; stack(1, 0, 0) -> 1; load(0) -> 7; put(3, 1) -> throws UnsupportedOperationException
                load(0) -> 7; set(2, 8) -> 7; put(3, 1) -> 1; load(0) -> 8
                put(4, 1) -> throws UnsupportedOperationException
                stack(2, 1, 0) -> throws UnsupportedOperationException; set(2, 11) -> 8; stack(2, 1, 0) -> 2
                load(0) -> 11
                put(4, 2) -> throws UnsupportedOperationException; put(4, 0) -> 5; ware(4, 5) -> 0
                """);
    }

    private static void heats() {
        test("promises 10 and 21", "this heat, less 10 times its level and 5 times the number of its bung", """
                set(2, 40) -> 16; 8 x saggar() -> 7; stack(0, -1, 0) -> 0; heatAt(0, 1000) -> 1000
                heatAt(0, 1400) -> 1400
                unstack(0) -> 0; stack(0, -1, 3) -> 0; heatAt(0, 1000) -> 985; stack(1, 0, 0) -> 1; stack(2, 1, 0) -> 2
                stack(3, 2, 0) -> 3; stack(4, 3, 0) -> 4; stack(5, 4, 0) -> 5; stack(6, 5, 0) -> 6; stack(7, 6, 0) -> 7
                heatAt(1, 1000) -> 975; heatAt(7, 1000) -> 915; clay(9) -> 9; cast(1, 1, 50) -> 1; put(0, 7) -> 5
                fire(1319) -> 0; ware(0, 6) -> 3; undo() -> 7; fire(1320) -> 0; ware(0, 6) -> 2
                """);
    }

    private static void firings() {
        test("promise 10", "A firing with a heat from 1000 to 1400", SAUCERS + """
                put(0, 0) -> 5; fire(999) -> throws IllegalArgumentException
                fire(1401) -> throws IllegalArgumentException
                ware(0, 2) -> 1; fire(1000) -> 0; ware(0, 2) -> 2; put(1, 0) -> 4; fire(1400) -> 0; ware(1, 2) -> 2
                """);
        test("promise 10", "fires all wares that are in the state 1 in saggars in the kiln, by the heat h there",
                SAUCERS + """
                3 x saggar() -> 3; stack(1, 0, 0) -> 1; stack(2, -1, 3) -> 0; put(0, 0) -> 5; put(1, 1) -> 5
                put(2, 2) -> 5
                put(3, 3) -> 5; fire(1250) -> 2; ware(0, 6) -> 1; ware(1, 6) -> 1; ware(2, 6) -> 2; ware(3, 2) -> 1
                ware(3, 6) -> 0; ware(4, 2) -> 0; ware(4, 6) -> 0; put(4, 0) -> 4; fire(1000) -> 0; ware(4, 6) -> 3
                ware(0, 6) -> 1; ware(2, 6) -> 2
                """);
        test("promises 10 and 14", "1310 less 3 times the half of its share of bone, where this half is rounded down first",
                """
                clay(9) -> 9; cast(1, 1, 30) -> 1; cast(1, 1, 31) -> 2; cast(1, 1, 32) -> 3; cast(1, 1, 59) -> 4
                cast(1, 1, 60) -> 5; ware(0, 7) -> 1265; ware(1, 7) -> 1265; ware(2, 7) -> 1262; ware(3, 7) -> 1223
                ware(4, 7) -> 1220; wouldBe(1, 1264) -> 3; wouldBe(1, 1265) -> 2
                """);
        test("promises 10 and 14", "Wares that are fired have the state 2.", SAUCERS + """
                put(0, 0) -> 5; put(1, 0) -> 4; put(2, 0) -> 3; fire(1250) -> 2; put(3, 0) -> 2; ware(0, 2) -> 2
                ware(2, 2) -> 2
                ware(3, 2) -> 1; fire(1400) -> 0; ware(3, 2) -> 2; account(3) -> 4; account(2) -> 0
                """);
    }

    private static void wasters() {
        test("promises 10 and 22", "A ware is a waster if h is less than its need", SAUCERS + """
                wouldBe(0, 1234) -> 3; wouldBe(0, 1235) -> 1; wouldBe(2, 1234) -> 3; wouldBe(2, 1235) -> 2
                wouldBe(0, 0) -> 3
                put(0, 0) -> 5; fire(1234) -> 0; ware(0, 6) -> 3; undo() -> 7; fire(1235) -> 1; ware(0, 6) -> 1
                """);
        test("promises 10 and 22", "or greater than its need and 2 times the warp together", SAUCERS + """
                wouldBe(2, 1315) -> 2; wouldBe(2, 1316) -> 3; set(0, 9) -> 3; wouldBe(0, 1315) -> 2; wouldBe(0, 1316) -> 3
                set(1, 10) -> 40; wouldBe(2, 1255) -> 2; wouldBe(2, 1256) -> 3; put(2, 0) -> 5; fire(1256) -> 0
                ware(2, 6) -> 3
                undo() -> 7; fire(1255) -> 0; ware(2, 6) -> 2
                """);
        test("promises 10 and 22", "or if it has a glaze that runs by more than 2 times the run", SAUCERS + """
                wouldBe(0, 1305) -> 2; wouldBe(0, 1306) -> 3; wouldBe(2, 1306) -> 2; set(0, 0) -> 3; wouldBe(0, 1245) -> 1
                wouldBe(0, 1246) -> 3; wouldBe(2, 1246) -> 2; put(0, 0) -> 5; put(2, 0) -> 4; fire(1246) -> 0
                ware(0, 6) -> 3
                ware(2, 6) -> 2
                """);
    }

    private static void secondsAndFirsts() {
        test("promises 10 and 22", "otherwise it is a second if h is greater than its need and the warp together",
                SAUCERS + """
                set(0, 9) -> 3; wouldBe(0, 1275) -> 1; wouldBe(0, 1276) -> 2; set(1, 10) -> 40; wouldBe(0, 1245) -> 1
                wouldBe(0, 1246) -> 2; put(0, 0) -> 5; fire(1246) -> 0; ware(0, 6) -> 2
                """);
        test("promises 10 and 22", "or if its glaze runs by more than the run", SAUCERS + """
                set(1, 99) -> 40; wouldBe(0, 1275) -> 1; wouldBe(0, 1276) -> 2; set(0, 1) -> 3; wouldBe(0, 1255) -> 1
                wouldBe(0, 1256) -> 2; put(0, 0) -> 5; fire(1256) -> 0; ware(0, 6) -> 2
                """);
        test("promises 10 and 22", "or if it has no glaze", SAUCERS + """
                wouldBe(2, 1235) -> 2; wouldBe(0, 1235) -> 1; put(2, 0) -> 5; put(0, 0) -> 4; fire(1235) -> 1
                ware(2, 6) -> 2
                """);
        test("promises 10 and 22", "otherwise it is a first", SAUCERS + """
                set(0, 0) -> 3; set(1, 10) -> 40; wouldBe(0, 1235) -> 1; wouldBe(0, 1245) -> 1; put(0, 0) -> 5
                fire(1245) -> 1
                ware(0, 6) -> 1
                """);
    }

    private static void glazesThatRun() {
        test("promises 10 and 22", "A glaze runs by how much h is greater than its melting heat, divided by 10, or 0 if it is not",
                """
                clay(9) -> 9; cast(1, 1, 60) -> 1; glaze(0, 3, 1) -> 1236; set(0, 0) -> 3; wouldBe(0, 1220) -> 1
                wouldBe(0, 1226) -> 1; wouldBe(0, 1235) -> 1; wouldBe(0, 1236) -> 1; wouldBe(0, 1237) -> 1
                wouldBe(0, 1245) -> 1; wouldBe(0, 1246) -> 3; set(0, 1) -> 0; wouldBe(0, 1255) -> 1; wouldBe(0, 1256) -> 2
                """);
        test("promise 5", "the melting heats are 1180, 1200, 1220 and 1240 for the glazes 0 to 3, each less 4 times the thickness",
                """
                clay(9) -> 9; cast(1, 1, 60) -> 1; glaze(0, 0, 1) -> 1176; glaze(0, 0, 9) -> 1144; glaze(0, 1, 1) -> 1196
                glaze(0, 1, 9) -> 1164; glaze(0, 2, 1) -> 1216; glaze(0, 2, 9) -> 1184; glaze(0, 3, 1) -> 1236
                glaze(0, 3, 9) -> 1204; wouldBe(0, 1243) -> 1; wouldBe(0, 1244) -> 2; glaze(0, 0, 9) -> 1144
                set(0, 7) -> 3
                wouldBe(0, 1223) -> 1; wouldBe(0, 1224) -> 2
                """);
    }

    private static void emptying() {
        test("promise 11", "its firsts and seconds that were fired come to the store", SAUCERS + """
                put(0, 0) -> 5; put(2, 0) -> 4; fire(1250) -> 1; empty(0) -> 2; ware(0, 2) -> 3; ware(2, 2) -> 3
                ware(0, 5) -> -1; store(1, 3, false) -> 1; store(1, -1, true) -> 1
                """);
        test("promise 11", "its wasters are broken", SAUCERS + """
                put(0, 0) -> 5; put(2, 0) -> 4; fire(1234) -> 0; empty(0) -> 0; ware(0, 2) -> 5; ware(2, 2) -> 5
                ware(0, 5) -> -1; account(6) -> 2; account(4) -> 0
                """);
        test("promise 11", "its wares that were not fired are green again", SAUCERS + """
                put(0, 0) -> 5; fire(1250) -> 1; put(1, 0) -> 4; empty(0) -> 1; ware(1, 2) -> 0; ware(1, 5) -> -1
                ware(1, 6) -> 0; put(1, 0) -> 5
                """);
    }

    private static void orders() {
        test("promise 12", "At most 6 orders are kept, numbered from 0.", """
                orderOf(0, 0) -> throws IndexOutOfBoundsException; order(1, 0, 0, 0, 0, false) -> 0
                5 x order(2, 0, 0, 0, 0, false) -> 5; order(1, 0, 0, 0, 0, false) -> throws UnsupportedOperationException
                account(9) -> 6; orderOf(0, 0) -> 1; orderOf(5, 0) -> 2; orderOf(6, 0) -> throws IndexOutOfBoundsException
                orderOf(-1, 0) -> throws IndexOutOfBoundsException
                """);
        test("promises 12 to 36", "At most 6 orders are kept", SAUCERS + """
                # All that looks at orders looks at the last one, and no farther.
                5 x order(1, 0, 0, 0, 3, true) -> 4; order(0, 1, 0, 0, 3, true) -> 5; account(10) -> 0
                isBalanced() -> true
                put(1, 0) -> 5; fire(1250) -> 1; empty(0) -> 1; sets(5) -> 1; setsAgain(5) -> 1; sell(5) -> 1
                orderOf(5, 6) -> 1
                orderOf(0, 6) -> 0; account(10) -> 1; isBalanced() -> true; undo() -> 7; account(10) -> 0; account(9) -> 6
                """);
        test("promise 12", "An order tells how many cups, saucers, plates and bowls are in its set, 0 to 6 each, not all 0, a glaze",
                """
                order(0, 0, 0, 0, 0, false) -> throws IllegalArgumentException; order(6, 0, 0, 0, 0, false) -> 0
                order(0, 6, 0, 0, 3, false) -> 1; order(0, 0, 6, 0, 0, false) -> 2; order(0, 0, 0, 6, 3, false) -> 3
                order(0, 0, 0, 1, 0, true) -> 4; order(7, 0, 0, 0, 0, false) -> throws IllegalArgumentException
                order(0, 7, 0, 0, 0, false) -> throws IllegalArgumentException
                order(0, 0, 7, 0, 0, false) -> throws IllegalArgumentException
                order(0, 0, 0, 7, 0, false) -> throws IllegalArgumentException
                order(-1, 2, 0, 0, 0, false) -> throws IllegalArgumentException
                order(2, -1, 0, 0, 0, false) -> throws IllegalArgumentException
                order(0, 2, -1, 0, 0, false) -> throws IllegalArgumentException
                order(0, 2, 0, -1, 0, false) -> throws IllegalArgumentException
                order(1, 0, 0, 0, -1, false) -> throws IllegalArgumentException
                order(1, 0, 0, 0, 4, false) -> throws IllegalArgumentException; account(9) -> 5
                """);
    }

    private static void sales() {
        String threeGrades = SAUCERS + """
                glaze(2, 3, 1) -> 1236; glaze(3, 2, 1) -> 1216; put(0, 0) -> 5; put(3, 0) -> 4; fire(1276) -> 0
                put(1, 0) -> 3
                put(2, 0) -> 2; fire(1250) -> 2; empty(0) -> 4; ware(0, 6) -> 2; ware(1, 6) -> 1; ware(2, 6) -> 1
                ware(3, 6) -> 2
                """;
        test("promise 13", "for each kind as many wares of the store are sold as the set has", """
                clay(99) -> 99; cast(0, 2, 50) -> 2; cast(1, 2, 50) -> 4; "g0=31;g1=31;g2=31;g3=31" -> 23; read() -> 4
                saggar() -> 0; stack(0, -1, 0) -> 0; "p0@0;p1@0;p2@0;p3@0;f1250" -> 25; read() -> 5
                order(1, 2, 0, 0, 3, false) -> 0; order(0, 0, 0, 1, 3, false) -> 1
                sell(0) -> throws UnsupportedOperationException
                empty(0) -> 4; sell(0) -> 1; account(5) -> 3; ware(0, 2) -> 4; ware(1, 2) -> 3; ware(2, 2) -> 4
                ware(3, 2) -> 4
                sell(0) -> throws UnsupportedOperationException; account(5) -> 3
                """);
        test("promise 13", "of this glaze", threeGrades + """
                order(0, 1, 0, 0, 2, true) -> 0; sell(0) -> 1; ware(3, 2) -> 4; account(5) -> 1
                sell(0) -> throws UnsupportedOperationException; order(0, 1, 0, 0, 1, true) -> 1
                sell(1) -> throws UnsupportedOperationException; account(5) -> 1
                """);
        test("promise 13", "firsts or, if they may be taken, also seconds", threeGrades + """
                order(0, 3, 0, 0, 3, false) -> 0; order(0, 3, 0, 0, 3, true) -> 1; order(0, 1, 0, 0, 2, false) -> 2
                sell(0) -> throws UnsupportedOperationException; sell(2) -> throws UnsupportedOperationException
                sell(1) -> 1
                account(5) -> 3; ware(3, 2) -> 3
                """);
        test("promise 13", "of those always the ones with the lowest numbers", threeGrades + """
                order(0, 1, 0, 0, 3, false) -> 0; order(0, 1, 0, 0, 3, true) -> 1; sell(0) -> 1; ware(0, 2) -> 3
                ware(1, 2) -> 4
                ware(2, 2) -> 3; undo() -> 7; sell(1) -> 1; ware(0, 2) -> 4; ware(1, 2) -> 3; sell(1) -> 2
                ware(1, 2) -> 4
                ware(2, 2) -> 3
                """);
    }

    private static void texts() {
        test("promises 26 and 30", "The text buffer holds at most 60 characters.", """
                60 x append(101) -> 60; append(48) -> throws IllegalStateException; account(17) -> 60
                append(48) -> throws IllegalStateException; account(17) -> 60
                """);
        test("promise 27", "A text consists of steps with a semicolon between two of them:", SAUCERS + """
                "t1*1" -> 4; read() -> 1; "t1*1;t1*1" -> 9; read() -> 2; "t1*1t1*1" -> 8
                read() -> throws IllegalArgumentException
                faultPosition() -> 4; "t1*1;" -> 5; read() -> throws IllegalArgumentException; faultPosition() -> 5
                ";t1*1" -> 5; read() -> throws IllegalArgumentException; faultPosition() -> 0; "t1*1;;t1*1" -> 10
                read() -> throws IllegalArgumentException; faultPosition() -> 5; ";" -> 1
                read() -> throws IllegalArgumentException
                faultPosition() -> 0; account(0) -> 8
                """);
        test("promise 27", "A text is done if each step can be, one after the other; else nothing of it is.", """
                clay(9) -> 9; saggar() -> 0; stack(0, -1, 0) -> 0; order(0, 1, 0, 0, 3, true) -> 0
                "t1*1;g0=31;p0@0;f1250;e0;s0" -> 27; read() -> 6; ware(0, 2) -> 4; undo() -> 4; account(0) -> 0
                account(10) -> 0
                "t1*1;g0=31;p0@0;f1250;e0;s0;s0" -> 30; read() -> throws UnsupportedOperationException; account(0) -> 0
                account(13) -> 9; account(10) -> 0; account(11) -> 0; account(18) -> 4
                "s0;t1*1;g0=31;p0@0;f1250;e0" -> 27
                read() -> throws UnsupportedOperationException; account(0) -> 0
                """);
    }

    private static void steps() {
        test("promise 27", "\"t\", a kind, \"*\" and a number throws so many wares with a share of bone of 50", """
                clay(99) -> 99; "t0*1;t3*20" -> 10; read() -> 2; account(0) -> 21; account(13) -> 17; ware(20, 0) -> 3
                ware(0, 0) -> 0; ware(0, 1) -> 50; ware(20, 1) -> 50; "t1*0" -> 4
                read() -> throws UnsupportedOperationException
                "t1*21" -> 5; read() -> throws UnsupportedOperationException; account(0) -> 21
                """);
        test("promise 27", "\"g\", a number, \"=\", a glaze and a thickness glazes the ware with this number", """
                clay(12) -> 12; cast(1, 12, 50) -> 12; "g0=01;g11=39" -> 12; read() -> 2; ware(0, 3) -> 0; ware(0, 4) -> 1
                ware(11, 3) -> 3; ware(11, 4) -> 9; "g12=11" -> 6; read() -> throws UnsupportedOperationException
                ware(1, 3) -> -1
                """);
        test("promise 27", "\"p\", a number, \"@\" and a saggar puts it into that", """
                clay(12) -> 12; cast(1, 12, 50) -> 12; 8 x saggar() -> 7; "p0@7;p11@0" -> 10; read() -> 2; ware(0, 5) -> 7
                ware(11, 5) -> 0; "p1@8" -> 4; read() -> throws UnsupportedOperationException; "p12@1" -> 5
                read() -> throws UnsupportedOperationException; account(2) -> 2
                """);
        test("promise 27", "\"f\" and four digits fires", SAUCERS + """
                put(0, 0) -> 5; "f0999" -> 5; read() -> throws UnsupportedOperationException; "f1401" -> 5
                read() -> throws UnsupportedOperationException; ware(0, 2) -> 1; "f1235" -> 5; read() -> 1
                ware(0, 6) -> 1
                put(2, 0) -> 4; "f1000" -> 5; read() -> 1; ware(2, 6) -> 3; put(3, 0) -> 3; "f1400" -> 5; read() -> 1
                account(11) -> 3; "f9999" -> 5; read() -> throws UnsupportedOperationException; refusal(1, false) -> 13
                """);
        test("promise 27", "\"e\" and a saggar empties it", """
                clay(9) -> 9; cast(1, 2, 50) -> 2; 8 x saggar() -> 7; put(0, 0) -> 5; put(1, 7) -> 5; "e0" -> 2
                read() -> 1
                ware(0, 2) -> 0; ware(1, 2) -> 1; "e7" -> 2; read() -> 1; ware(1, 2) -> 0; "e8" -> 2
                read() -> throws UnsupportedOperationException; refusal(1, false) -> 13
                """);
        test("promise 27", "\"s\" and an order sells a set", SAUCERS + """
                5 x order(1, 0, 0, 0, 0, true) -> 4; order(0, 1, 0, 0, 3, false) -> 5; put(0, 0) -> 5; put(1, 0) -> 4
                fire(1250) -> 2; empty(0) -> 2; "s5" -> 2; read() -> 1; ware(0, 2) -> 4; ware(1, 2) -> 3
                orderOf(5, 6) -> 1
                "s6" -> 2; read() -> throws UnsupportedOperationException; refusal(1, false) -> 13
                """);
    }

    private static void signsOfTexts() {
        test("promises 27 and 28", "Kinds, glazes, thicknesses, saggars and orders are one digit", """
                "t12*1" -> 5; read() -> throws IllegalArgumentException; faultPosition() -> 2; "t*1" -> 3
                read() -> throws IllegalArgumentException; faultPosition() -> 1; "g0=123" -> 6
                read() -> throws IllegalArgumentException; faultPosition() -> 5; "g0=1" -> 4
                read() -> throws IllegalArgumentException; faultPosition() -> 4; "p0@12" -> 5
                read() -> throws IllegalArgumentException; faultPosition() -> 4; "e12" -> 3
                read() -> throws IllegalArgumentException; faultPosition() -> 2; "s12" -> 3
                read() -> throws IllegalArgumentException; faultPosition() -> 2; "s;e0" -> 4
                read() -> throws IllegalArgumentException; faultPosition() -> 1
                """);
        test("promises 27 and 28", "numbers one or two digits", """
                clay(99) -> 99; cast(1, 11, 50) -> 11; saggar() -> 0; "t1*1;t1*01;t1*10" -> 16; read() -> 3
                account(0) -> 23
                "g1=01;g01=01;g10=01" -> 19; read() -> 3; "p1@0;p02@0;p10@0" -> 16; read() -> 3; account(2) -> 3
                "t1*" -> 3; read() -> throws IllegalArgumentException; faultPosition() -> 3; "t1*100" -> 6
                read() -> throws IllegalArgumentException; faultPosition() -> 5; "g=01" -> 4
                read() -> throws IllegalArgumentException; faultPosition() -> 1; "g100=01" -> 7
                read() -> throws IllegalArgumentException; faultPosition() -> 3; "p@0" -> 3
                read() -> throws IllegalArgumentException; faultPosition() -> 1; "p100@0" -> 6
                read() -> throws IllegalArgumentException; faultPosition() -> 3
                """);
        test("promise 28", "\"f\" and four digits", """
                "f125" -> 4; read() -> throws IllegalArgumentException; faultPosition() -> 4; "f12500" -> 6
                read() -> throws IllegalArgumentException; faultPosition() -> 5; "f" -> 1
                read() -> throws IllegalArgumentException
                faultPosition() -> 1; "f125;e0" -> 7; read() -> throws IllegalArgumentException; faultPosition() -> 4
                "f12/0" -> 5; read() -> throws IllegalArgumentException; faultPosition() -> 3; "f12:0" -> 5
                read() -> throws IllegalArgumentException; faultPosition() -> 3; "f0000" -> 5
                read() -> throws UnsupportedOperationException; faultPosition() -> -1
                """);
    }

    private static void faults() {
        test("promise 28", "the offset of the first character that cannot continue such a text", """
                "x" -> 1; read() -> throws IllegalArgumentException; faultPosition() -> 0; "f1250;q" -> 7
                read() -> throws IllegalArgumentException; faultPosition() -> 6; "f1250,f1250" -> 11
                read() -> throws IllegalArgumentException; faultPosition() -> 5; "p1=0;xx" -> 7
                read() -> throws IllegalArgumentException; faultPosition() -> 2
                "f1250;f1250;f1250;f1250;f1250;f1250;f1250;f1250;f1250;e0;e0x" -> 60
                read() -> throws IllegalArgumentException; faultPosition() -> 59; append(65535) -> 1
                read() -> throws IllegalArgumentException; faultPosition() -> 0; append(101) -> 1; append(1633) -> 2
                read() -> throws IllegalArgumentException; faultPosition() -> 1; append(101) -> 1; append(304) -> 2
                read() -> throws IllegalArgumentException; faultPosition() -> 1; append(0) -> 1
                read() -> throws IllegalArgumentException; faultPosition() -> 0
                """);
        test("promise 28", "or the length of the text if it ends too early", """
                read() -> throws IllegalArgumentException; faultPosition() -> 0; "g" -> 1
                read() -> throws IllegalArgumentException; faultPosition() -> 1; "g59=3" -> 5
                read() -> throws IllegalArgumentException; faultPosition() -> 5
                "f1250;f1250;f1250;f1250;f1250;f1250;f1250;f1250;f1250;f1250;" -> 60
                read() -> throws IllegalArgumentException; faultPosition() -> 60
                "f1250;f1250;f1250;f1250;f1250;f1250;f1250;f1250;f1250;e0;p59" -> 60
                read() -> throws IllegalArgumentException; faultPosition() -> 60
                """);
    }

    private static void orderOfReasons() {
        test("promises 3 to 13", "Something is refused for the first that applies of the reasons that its method names, in the order in which it names them",
                """
                # cast: 1 ahead of 2
                clay(90) -> 90; 2 x cast(1, 20, 50) -> 40; cast(0, 20, 50) -> 60; clay(5) -> 15
                cast(3, 20, 50) -> throws UnsupportedOperationException; refusal(0, false) -> 1; undo() -> 4; undo() -> 3
                cast(3, 20, 50) -> throws UnsupportedOperationException; refusal(0, false) -> 2; refusal(0, true) -> 50
                # put: 3 ahead of 4 ahead of 7
                clay(9) -> 59; cast(3, 3, 50) -> 43; set(2, 5) -> 16; 3 x saggar() -> 2; stack(0, -1, 0) -> 0
                stack(1, 0, 0) -> 1
                put(0, 1) -> 5; put(1, 1) -> 4; load(0) -> 5; put(2, 1) -> throws UnsupportedOperationException
                refusal(0, false) -> 7
                set(2, 6) -> 5; put(2, 1) -> 3; put(40, 1) -> throws UnsupportedOperationException; refusal(0, false) -> 4
                put(2, 1) -> throws UnsupportedOperationException; refusal(0, false) -> 3; put(40, 2) -> 2
                put(40, 1) -> throws UnsupportedOperationException; refusal(0, false) -> 3
                # stack: 5 for the saggar ahead of 5 for the other one ahead of 6 ahead of 7
                stack(1, 2, 0) -> throws UnsupportedOperationException; refusal(0, false) -> 5; refusal(0, true) -> 1
                unstack(1) -> 1; stack(1, 2, 0) -> throws UnsupportedOperationException; refusal(0, true) -> 2
                stack(1, 0, 0) -> 1
                stack(2, 0, 0) -> throws UnsupportedOperationException; refusal(0, false) -> 6; refusal(0, true) -> 1
                stack(2, 1, 0) -> throws UnsupportedOperationException; refusal(0, false) -> 7; refusal(0, true) -> 0
                stack(1, 0, 0) -> throws UnsupportedOperationException; refusal(0, false) -> 5; refusal(0, true) -> 1
                # unstack: 5 ahead of 8
                unstack(2) -> throws UnsupportedOperationException; refusal(0, false) -> 5; refusal(0, true) -> 2
                unstack(0) -> throws UnsupportedOperationException; refusal(0, false) -> 8; refusal(0, true) -> 1
                """);
    }

    private static void reasonsOfWares() {
        test("promises 3, 4, 6 and 12", "1, there are as many as there can be, or would be more: how many there can be",
                """
                5 x clay(99) -> 495; 5 x clay(99) -> 990; clay(10) -> throws UnsupportedOperationException
                refusal(0, false) -> 1
                refusal(0, true) -> 999; 2 x cast(1, 20, 50) -> 40; cast(1, 11, 50) -> 51
                cast(1, 10, 50) -> throws UnsupportedOperationException; refusal(0, false) -> 1; refusal(0, true) -> 60
                8 x saggar() -> 7; saggar() -> throws UnsupportedOperationException; refusal(0, false) -> 1
                refusal(0, true) -> 8
                6 x order(0, 1, 0, 0, 0, true) -> 5; order(0, 1, 0, 0, 0, true) -> throws UnsupportedOperationException
                refusal(0, false) -> 1; refusal(0, true) -> 6; cast(1, 9, 50) -> 60
                cast(1, 1, 50) -> throws UnsupportedOperationException; refusal(0, true) -> 60
                """);
        test("promise 4", "2, there is too little clay: how much there is", """
                cast(1, 1, 50) -> throws UnsupportedOperationException; refusal(0, false) -> 2; refusal(0, true) -> 0
                clay(79) -> 79; cast(3, 20, 50) -> throws UnsupportedOperationException; refusal(0, false) -> 2
                refusal(0, true) -> 79
                clay(1) -> 80; cast(3, 20, 50) -> 20; account(13) -> 0
                """);
        test("promises 5 and 9", "3, the state of a ware is not the one that is needed: its state", SAUCERS + """
                order(0, 1, 0, 0, 3, false) -> 0; glaze(0, 3, 1) -> 1236; put(0, 0) -> 5
                put(0, 0) -> throws UnsupportedOperationException; refusal(0, false) -> 3; refusal(0, true) -> 1
                glaze(0, 0, 1) -> throws UnsupportedOperationException; refusal(0, false) -> 3; refusal(0, true) -> 1
                fire(1250) -> 1; put(0, 0) -> throws UnsupportedOperationException; refusal(0, true) -> 2
                glaze(0, 0, 1) -> throws UnsupportedOperationException; refusal(0, true) -> 2; empty(0) -> 1
                put(0, 0) -> throws UnsupportedOperationException; refusal(0, true) -> 3
                glaze(0, 0, 1) -> throws UnsupportedOperationException; refusal(0, true) -> 3; sell(0) -> 1
                put(0, 0) -> throws UnsupportedOperationException; refusal(0, true) -> 4
                glaze(0, 0, 1) -> throws UnsupportedOperationException; refusal(0, true) -> 4; put(1, 0) -> 5
                fire(1000) -> 0
                empty(0) -> 0; put(1, 0) -> throws UnsupportedOperationException; refusal(0, true) -> 5
                glaze(1, 0, 1) -> throws UnsupportedOperationException; refusal(0, true) -> 5
                """);
        test("promise 9", "4, there is too little room in the saggar: the size that is free", """
                clay(99) -> 99; cast(3, 2, 50) -> 2; cast(2, 1, 50) -> 3; cast(0, 1, 50) -> 4; cast(1, 1, 50) -> 5
                saggar() -> 0
                put(0, 0) -> 2; put(2, 0) -> throws UnsupportedOperationException; refusal(0, false) -> 4
                refusal(0, true) -> 2
                put(1, 0) -> throws UnsupportedOperationException; refusal(0, true) -> 2; put(3, 0) -> 0
                put(4, 0) -> throws UnsupportedOperationException; refusal(0, false) -> 4; refusal(0, true) -> 0
                """);
    }

    private static void reasonsOfPlaces() {
        test("promises 7 and 8", "5, the saggar is in the kiln, if it must stand on the floor, or the other way round: the saggar",
                """
                3 x saggar() -> 2; stack(2, 1, 0) -> throws UnsupportedOperationException; refusal(0, false) -> 5
                refusal(0, true) -> 1; unstack(2) -> throws UnsupportedOperationException; refusal(0, false) -> 5
                refusal(0, true) -> 2; stack(2, -1, 3) -> 0; stack(2, -1, 0) -> throws UnsupportedOperationException
                refusal(0, false) -> 5; refusal(0, true) -> 2
                """);
        test("promise 7", "6, something stands there already: the saggar that does", """
                4 x saggar() -> 3; stack(2, -1, 3) -> 0; stack(0, -1, 3) -> throws UnsupportedOperationException
                refusal(0, false) -> 6; refusal(0, true) -> 2; stack(1, 2, 0) -> 1
                stack(0, 2, 0) -> throws UnsupportedOperationException; refusal(0, false) -> 6; refusal(0, true) -> 1
                stack(3, -1, 3) -> throws UnsupportedOperationException; refusal(0, true) -> 2
                """);
        test("promises 7 and 9", "7, a load would be too great: the saggar of which it would be, of several the one at the lowest level",
                """
                clay(9) -> 9; cast(1, 3, 50) -> 3; set(2, 7) -> 16; 5 x saggar() -> 4; stack(4, -1, 1) -> 0
                stack(2, 4, 0) -> 1
                stack(3, 2, 0) -> 2; load(4) -> 6; put(0, 3) -> 5; load(4) -> 7
                put(1, 3) -> throws UnsupportedOperationException
                refusal(0, false) -> 7; refusal(0, true) -> 4; stack(0, 3, 0) -> throws UnsupportedOperationException
                refusal(0, false) -> 7; refusal(0, true) -> 4; set(2, 5) -> 7
                stack(0, 3, 0) -> throws UnsupportedOperationException
                refusal(0, true) -> 4; put(1, 2) -> throws UnsupportedOperationException; refusal(0, true) -> 4
                put(1, 4) -> 5; stack(0, -1, 0) -> 0
                """);
        test("promise 8", "8, something stands on the saggar: the saggar that does", """
                3 x saggar() -> 2; stack(1, -1, 0) -> 0; stack(2, 1, 0) -> 1; stack(0, 2, 0) -> 2
                unstack(1) -> throws UnsupportedOperationException; refusal(0, false) -> 8; refusal(0, true) -> 2
                unstack(2) -> throws UnsupportedOperationException; refusal(0, false) -> 8; refusal(0, true) -> 0
                unstack(0) -> 2; unstack(2) -> 1; unstack(1) -> 0
                """);
        test("promises 10 and 11", "9, there is nothing to fire, or to empty: 0", SAUCERS + """
                fire(1250) -> throws UnsupportedOperationException; refusal(0, false) -> 9; refusal(0, true) -> 0
                order(1, 0, 0, 0, 0, true) -> 0; sell(0) -> throws UnsupportedOperationException
                saggar() -> 1; put(0, 1) -> 5; fire(1250) -> throws UnsupportedOperationException; refusal(0, false) -> 9
                refusal(0, true) -> 0; refusal(1, false) -> throws NoSuchElementException; saggar() -> 2
                put(0, 2) -> throws UnsupportedOperationException; empty(2) -> throws UnsupportedOperationException
                refusal(0, false) -> 9; refusal(0, true) -> 0
                """);
    }

    private static void reasonsOfSetsAndTexts() {
        test("promise 13", "10, a set cannot be sold: the order", """
                6 x order(0, 1, 0, 0, 0, true) -> 5; sell(5) -> throws UnsupportedOperationException
                refusal(0, false) -> 10
                refusal(0, true) -> 5; sell(0) -> throws UnsupportedOperationException; refusal(0, false) -> 10
                refusal(0, true) -> 0
                """);
        test("promise 27", "11, a step of a text cannot be done: its number, from 0", """
                clay(99) -> 99; "e0;t1*1" -> 7; read() -> throws UnsupportedOperationException; refusal(0, false) -> 11
                refusal(0, true) -> 0; "t1*1;t1*1;e0;e1" -> 15; read() -> throws UnsupportedOperationException
                refusal(0, false) -> 11; refusal(0, true) -> 2; saggar() -> 0; cast(1, 1, 50) -> 1
                "p0@0;e0;p0@0;e0;p0@0;e0;p0@0;e0;p0@0;e0;p0@0;e0;p0@0;e0;e0" -> 58
                read() -> throws UnsupportedOperationException; refusal(0, true) -> 14
                "s0;s0;s0;s0;s0;s0;s0;s0;s0;s0;s0;s0;s0;s0;s0;s0;s0;s0;s0;s0" -> 59
                read() -> throws UnsupportedOperationException; refusal(0, true) -> 0
                """);
        test("promises 13 and 29", "Behind 10 stands 12, there are too few wares of a kind: the lowest such kind.",
                SAUCERS + """
                put(0, 0) -> 5; fire(1250) -> 1; empty(0) -> 1; order(0, 1, 1, 1, 3, false) -> 0
                order(0, 2, 1, 0, 3, false) -> 1
                order(1, 2, 0, 0, 3, false) -> 2; order(0, 0, 0, 6, 3, false) -> 3
                sell(0) -> throws UnsupportedOperationException; refusal(1, false) -> 12; refusal(1, true) -> 2
                sell(1) -> throws UnsupportedOperationException; refusal(1, false) -> 12; refusal(1, true) -> 1
                sell(2) -> throws UnsupportedOperationException; refusal(1, false) -> 12; refusal(1, true) -> 0
                sell(3) -> throws UnsupportedOperationException; refusal(1, false) -> 12; refusal(1, true) -> 3
                refusal(2, false) -> throws NoSuchElementException; refusal(2, true) -> throws NoSuchElementException
                """);
        test("promises 27 and 29", "Behind 11 stands the reason of the step, with what is behind it", SAUCERS + """
                order(0, 0, 1, 0, 0, true) -> 0; order(0, 0, 0, 1, 0, true) -> 1
                "s1" -> 2; read() -> throws UnsupportedOperationException; refusal(0, false) -> 11; refusal(0, true) -> 0
                refusal(1, false) -> 10; refusal(1, true) -> 1; refusal(2, false) -> 12; refusal(2, true) -> 3
                "t1*1;p0@0;p0@0" -> 14; read() -> throws UnsupportedOperationException; refusal(0, true) -> 2
                refusal(1, false) -> 3; refusal(1, true) -> 1; refusal(2, false) -> throws NoSuchElementException
                """);
        test("promises 27 and 29", "or 13, the method for the step would throw another exception: 0", SAUCERS + """
                "e9" -> 2; read() -> throws UnsupportedOperationException; refusal(0, false) -> 11
                refusal(1, false) -> 13
                refusal(1, true) -> 0; refusal(2, false) -> throws NoSuchElementException; "t9*1" -> 4
                read() -> throws UnsupportedOperationException; refusal(1, false) -> 13; refusal(1, true) -> 0
                "g5=31" -> 5; read() -> throws UnsupportedOperationException; refusal(1, false) -> 13
                "g0=30" -> 5; read() -> throws UnsupportedOperationException; refusal(1, false) -> 13
                "p5@0" -> 4; read() -> throws UnsupportedOperationException; refusal(1, false) -> 13
                "f0000" -> 5; read() -> throws UnsupportedOperationException; refusal(1, false) -> 13
                "s0" -> 2; read() -> throws UnsupportedOperationException; refusal(1, false) -> 13
                "e0" -> 2; read() -> throws UnsupportedOperationException; refusal(1, false) -> 9
                """);
    }

    private static void changes() {
        test("promises 2 to 13, 27 and 34", "The changes are the successful calls of set, clay, cast, glaze, saggar, stack, unstack, put, fire, empty, order, sell and read",
                """
                set(0, 4) -> 3; account(18) -> 1; undo() -> 0; account(14) -> 3; clay(9) -> 9; account(18) -> 1
                undo() -> 0
                account(13) -> 0; clay(9) -> 9; save() -> 0; restore() -> 0; cast(1, 2, 50) -> 2; account(18) -> 1
                undo() -> 0
                account(0) -> 0; cast(1, 2, 50) -> 2; save() -> 2; restore() -> 2; glaze(0, 3, 1) -> 1236
                account(18) -> 1
                undo() -> 0; ware(0, 3) -> -1; glaze(0, 3, 1) -> 1236; save() -> 2; restore() -> 2; saggar() -> 0
                account(18) -> 1
                undo() -> 0; account(7) -> 0; saggar() -> 0; save() -> 2; restore() -> 2; stack(0, -1, 0) -> 0
                account(18) -> 1
                undo() -> 0; account(8) -> 0; stack(0, -1, 0) -> 0; save() -> 2; restore() -> 2; unstack(0) -> 0
                account(18) -> 1
                undo() -> 0; account(8) -> 1; put(0, 0) -> 5; account(18) -> 1; undo() -> 0; ware(0, 2) -> 0
                put(0, 0) -> 5
                save() -> 2; restore() -> 2; fire(1250) -> 1; account(18) -> 1; undo() -> 0; ware(0, 2) -> 1
                account(11) -> 0
                fire(1250) -> 1; save() -> 2; restore() -> 2; empty(0) -> 1; account(18) -> 1; undo() -> 0
                ware(0, 2) -> 2
                empty(0) -> 1; save() -> 2; restore() -> 2; order(0, 1, 0, 0, 3, false) -> 0; account(18) -> 1
                undo() -> 0
                account(9) -> 0; order(0, 1, 0, 0, 3, false) -> 0; save() -> 2; restore() -> 2; sell(0) -> 1
                account(18) -> 1
                undo() -> 0; ware(0, 2) -> 3; orderOf(0, 6) -> 0; "s0;p1@0" -> 7; read() -> 2; account(18) -> 1
                undo() -> 0
                ware(0, 2) -> 3; ware(1, 2) -> 0; undo() -> throws IllegalStateException
                """);
        test("promises 2, 5, 27 and 34", "also if nothing is different then", """
                set(0, 3) -> 3; account(18) -> 1; clay(9) -> 9; cast(1, 1, 50) -> 1; glaze(0, 3, 1) -> 1236
                account(18) -> 4
                glaze(0, 3, 1) -> 1236; account(18) -> 5; saggar() -> 0; "p0@0;e0" -> 7; read() -> 2; account(18) -> 7
                undo() -> 6; account(7) -> 1; undo() -> 5; account(7) -> 0; undo() -> 4; ware(0, 3) -> 3; undo() -> 3
                ware(0, 3) -> -1
                """);
    }

    private static void undoing() {
        test("promise 34", "The latest 8 can be undone", """
                7 x clay(1) -> 7; account(18) -> 7; clay(1) -> 8; account(18) -> 8; clay(1) -> 9; account(18) -> 8
                clay(1) -> 10
                account(18) -> 8; undo() -> 7; account(13) -> 9; 6 x undo() -> 1; account(13) -> 3; undo() -> 0
                account(13) -> 2
                undo() -> throws IllegalStateException; account(13) -> 2; 20 x clay(2) -> 42; 8 x undo() -> 0
                account(13) -> 26
                undo() -> throws IllegalStateException
                """);
        test("promises 34 and 36", "restore forgets all", """
                clay(1) -> 1; save() -> 0; 9 x clay(1) -> 10; restore() -> 0; account(18) -> 0
                undo() -> throws IllegalStateException; account(13) -> 1; clay(5) -> 6; account(18) -> 1; undo() -> 0
                account(13) -> 1
                undo() -> throws IllegalStateException; restore() -> 0; undo() -> throws IllegalStateException
                """);
    }

    private static void exceptions() {
        test("promises 2 to 13", "A method that throws an exception leaves the state unchanged unless its documentation says otherwise.",
                SAUCERS + """
                # UnchangedTest looks at all that can be asked, for each exception of each method.
                glaze(0, 0, 10) -> throws IllegalArgumentException; ware(0, 3) -> 3; cast(3, 20, 50) -> 25
                account(13) -> 14
                cast(3, 4, 50) -> throws UnsupportedOperationException; account(0) -> 25; account(13) -> 14
                account(18) -> 7
                put(5, 0) -> 2; put(6, 0) -> throws UnsupportedOperationException; ware(6, 2) -> 0; saggarOf(0, 6) -> 1
                undo() -> 7; ware(5, 2) -> 0
                """);
        test("promises 2 to 33", "If several exceptions apply, the one that is documented first is thrown.", """
                # no such ware, and a wrong number; no such saggars, no such bung, and both the same
                glaze(0, 9, 0) -> throws IndexOutOfBoundsException; stack(0, 0, 9) -> throws IndexOutOfBoundsException
                ware(0, 8) -> throws IndexOutOfBoundsException; saggarOf(0, 7) -> throws IndexOutOfBoundsException
                orderOf(0, 7) -> throws IndexOutOfBoundsException; heatAt(0, 0) -> throws IndexOutOfBoundsException
                wouldBe(0, -1) -> throws IndexOutOfBoundsException
                # a wrong number, and a refusal
                10 x clay(99) -> 990; clay(100) -> throws IllegalArgumentException; 3 x cast(1, 20, 50) -> 60
                cast(1, 21, 50) -> throws IllegalArgumentException; cast(1, 1, 61) -> throws IllegalArgumentException
                fire(999) -> throws IllegalArgumentException; 6 x order(1, 0, 0, 0, 0, true) -> 5
                order(0, 0, 0, 0, 0, true) -> throws IllegalArgumentException
                order(1, 0, 0, 0, 4, true) -> throws IllegalArgumentException
                # no such saggar, and the ware is not green; a wrong number, and the ware is not green
                2 x saggar() -> 1; put(0, 0) -> 5; put(0, 2) -> throws IndexOutOfBoundsException
                glaze(0, 0, 10) -> throws IllegalArgumentException; glaze(60, 0, 1) -> throws IndexOutOfBoundsException
                # no such bung, and the saggar is in the kiln; both the same, and it is in the kiln
                stack(0, -1, 0) -> 0; stack(0, -1, 4) -> throws IndexOutOfBoundsException
                stack(0, 2, 0) -> throws IndexOutOfBoundsException
                stack(0, 0, 0) -> throws IllegalArgumentException; heatAt(1, 999) -> throws IllegalArgumentException
                refusal(3, true) -> throws IllegalArgumentException
                """);
    }

    private static void whatStays() {
        test("promises 26, 34 and 36", "The text buffer, the fault position and the reasons are neither undone nor saved, and stay.",
                """
                # the text buffer
                "t1*" -> 3; clay(1) -> 1; save() -> 0; "1;t" -> 6; undo() -> 0; account(17) -> 6; restore() -> 0
                account(17) -> 6
                # the fault position
                read() -> throws IllegalArgumentException; faultPosition() -> 6; clay(2) -> 3; save() -> 0; clay(3) -> 6
                "x" -> 1
                read() -> throws IllegalArgumentException; undo() -> 1; faultPosition() -> 0; restore() -> 0
                faultPosition() -> 0
                account(17) -> 0; "t1*1" -> 4; read() -> 1; faultPosition() -> -1; undo() -> 0; faultPosition() -> -1
                # the reasons
                fire(1000) -> throws UnsupportedOperationException; save() -> 0; clay(1) -> 4
                cast(3, 2, 50) -> throws UnsupportedOperationException; undo() -> 0; refusal(0, false) -> 2
                refusal(0, true) -> 4
                restore() -> 0; refusal(0, false) -> 2; refusal(0, true) -> 4
                """);
    }

    private static void inDoubt() {
        test("promises 2 and 16", "A strength that is set lower leaves loads as they are.", """
                set(2, 12) -> 16; 5 x saggar() -> 4; stack(0, -1, 0) -> 0; stack(1, 0, 0) -> 1; stack(2, 1, 0) -> 2
                stack(3, 2, 0) -> 3; stack(4, 3, 0) -> 4; load(0) -> 12; set(2, 5) -> 12; load(0) -> 12; load(1) -> 9
                loadAgain(0) -> 12; account(8) -> 5; isBalanced() -> true; clay(9) -> 9; cast(1, 1, 50) -> 1
                put(0, 0) -> 5
                unstack(4) -> 4; load(0) -> 9; stack(4, 3, 0) -> throws UnsupportedOperationException
                """);
        test("promise 7", "If a saggar is stood on another one, the load of that one counts, too.", """
                clay(9) -> 9; cast(2, 1, 50) -> 1; set(2, 5) -> 16; 2 x saggar() -> 1; put(0, 1) -> 3
                stack(0, -1, 0) -> 0
                stack(1, 0, 0) -> throws UnsupportedOperationException; refusal(0, false) -> 7; refusal(0, true) -> 0
                set(2, 6) -> 5; stack(1, 0, 0) -> 1
                """);
        test("promise 10", "What was fired stays so when its saggar is stood anew, and is not fired again.", SAUCERS + """
                put(0, 0) -> 5; fire(1250) -> 1; unstack(0) -> 0; ware(0, 2) -> 2; stack(0, -1, 3) -> 0; ware(0, 2) -> 2
                fire(1400) -> throws UnsupportedOperationException; refusal(0, false) -> 9; put(2, 0) -> 4
                fire(1400) -> 0
                ware(0, 6) -> 1; ware(2, 6) -> 3; bestHeat(true) -> throws NoSuchElementException
                """);
        test("promise 11", "A ware that was not fired keeps its glaze when its saggar is emptied.", SAUCERS + """
                put(0, 0) -> 5; put(2, 0) -> 4; empty(0) -> 0; ware(0, 3) -> 3; ware(0, 4) -> 1; ware(2, 3) -> -1
                ware(2, 4) -> 0
                """);
        test("promise 13", "If seconds may be taken, firsts and seconds are sold alike by their numbers", SAUCERS + """
                glaze(2, 3, 1) -> 1236; put(1, 0) -> 5; fire(1276) -> 0; put(0, 0) -> 4; put(2, 0) -> 3; fire(1250) -> 2
                empty(0) -> 3
                ware(0, 6) -> 1; ware(1, 6) -> 2; ware(2, 6) -> 1; order(0, 1, 0, 0, 3, true) -> 0; sell(0) -> 1
                ware(0, 2) -> 4
                sell(0) -> 2; ware(1, 2) -> 4; ware(2, 2) -> 3; sell(0) -> 3; ware(2, 2) -> 4
                """);
        test("promise 13", "wares without a glaze are never sold", SAUCERS + """
                put(2, 0) -> 5; put(3, 0) -> 4; fire(1250) -> 0; empty(0) -> 2; order(0, 1, 0, 0, 0, true) -> 0
                order(0, 1, 0, 0, 3, true) -> 1; sell(0) -> throws UnsupportedOperationException
                sell(1) -> throws UnsupportedOperationException; sets(0) -> 0; setsAgain(0) -> 0; sets(1) -> 0
                setsAgain(1) -> 0
                ware(2, 2) -> 3; store(1, -1, true) -> 2
                """);
        test("promises 14 and 32", "What a ware became when it was fired is told of it ever after.", SAUCERS + """
                put(0, 0) -> 5; put(2, 0) -> 4; fire(1250) -> 1; put(3, 0) -> 3; fire(1000) -> 0; empty(0) -> 2
                order(0, 1, 0, 0, 3, false) -> 0; sell(0) -> 1; set(0, 0) -> 3; set(1, 10) -> 40; ware(0, 6) -> 1
                ware(2, 6) -> 2
                ware(3, 6) -> 3; ware(0, 2) -> 4; ware(3, 2) -> 5; firstShare() -> 0.3333333333333333
                """);
        test("promise 28", "A text without a fault has no fault position, also if it is refused.", """
                "x" -> 1; read() -> throws IllegalArgumentException; faultPosition() -> 0; "e0" -> 2
                read() -> throws UnsupportedOperationException; faultPosition() -> -1; "x" -> 1
                read() -> throws IllegalArgumentException; clay(9) -> 9; "t1*1" -> 4; read() -> 1; faultPosition() -> -1
                """);
    }
}
