/** A test for each sentence under the heading of a promise that names a boundary, an answer or an exception. */
public final class SentencesTest {
    private static final Sentences SENTENCES = new Sentences();

    /** Five saucers with the share of bone 50, of which the first two have glaze 3: firsts from 1235 to 1275. */
    private static final String SAUCERS = """
            clay(99) -> 99; cast(1, 5, 50) -> 5; glaze(0, 3, 1) -> 1236; glaze(1, 3, 1) -> 1236
            saggar() -> 0; stack(0, -1, 0) -> 0
            """;

    /** The same with two firsts, 0 and 1, and a second without a glaze, 2, in the store. */
    private static final String STORED = SAUCERS + """
            put(0, 0) -> 5; put(1, 0) -> 4; put(2, 0) -> 3; fire(1250) -> 2; empty(0) -> 3
            """;

    public static void main(String[] args) {
        newObject();
        set();
        clay();
        cast();
        glaze();
        saggar();
        stack();
        unstack();
        put();
        fire();
        empty();
        order();
        sell();
        ware();
        saggarOf();
        load();
        loadAgain();
        orderOf();
        sign();
        store();
        heatAt();
        wouldBe();
        bestHeat();
        sets();
        setsAgain();
        append();
        read();
        faultPosition();
        refusal();
        account();
        isBalanced();
        firstShare();
        meanLoad();
        undo();
        save();
        restore();
        for (int promise = 1; promise <= 36; promise++) {
            SENTENCES.needAll("Promise " + promise, "");
        }
        SENTENCES.end("sentences");
    }

    private static void test(int promise, String sentence, String calls) {
        SENTENCES.promise(promise, sentence, calls);
    }

    /** Names sentences that only lead to others, which are tested. */
    private static void untested(int promise, String... sentences) {
        SENTENCES.untested("Promise " + promise, sentences);
    }

    private static void newObject() {
        test(1, "Creates a kiln without clay, wares, saggars and orders.", """
                account(13) -> 0; account(12) -> 0; account(0) -> 0; account(7) -> 0; account(8) -> 0; account(9) -> 0
                account(10) -> 0; account(11) -> 0; account(17) -> 0; account(18) -> 0; clay(1) -> 1; cast(1, 1, 30) -> 1
                saggar() -> 0; order(1, 0, 0, 0, 0, false) -> 0
                """);
    }

    private static void set() {
        untested(2, "Sets a setting.");
        test(2, "Returns the value before.", """
                set(0, 5) -> 3; set(0, 5) -> 5; set(0, 0) -> 5; set(0, 1) -> 0; set(1, 99) -> 40; set(1, 10) -> 99
                set(2, 5) -> 16
                set(2, 40) -> 5; account(14) -> 1; account(15) -> 10; account(16) -> 40; undo() -> 7; set(2, 6) -> 5
                """);
        test(2, "Throws `IllegalArgumentException` if there is no such setting", """
                set(-1, 20) -> throws IllegalArgumentException; set(3, 20) -> throws IllegalArgumentException
                set(-2147483648, 20) -> throws IllegalArgumentException
                set(2147483647, 20) -> throws IllegalArgumentException
                account(14) -> 3; account(15) -> 40; account(16) -> 16; account(18) -> 0
                """);
        test(2, "or the value is out of range", """
                set(0, -1) -> throws IllegalArgumentException; set(0, 10) -> throws IllegalArgumentException
                set(1, 9) -> throws IllegalArgumentException; set(1, 100) -> throws IllegalArgumentException
                set(2, 4) -> throws IllegalArgumentException; set(2, 41) -> throws IllegalArgumentException
                set(0, -2147483648) -> throws IllegalArgumentException
                set(1, 2147483647) -> throws IllegalArgumentException
                set(2, -2147483648) -> throws IllegalArgumentException
                set(0, 2147483647) -> throws IllegalArgumentException
                account(14) -> 3; account(15) -> 40; account(16) -> 16; account(18) -> 0
                """);
    }

    private static void clay() {
        test(3, "Buys clay.", """
                clay(7) -> 7; account(12) -> 7; account(13) -> 7; cast(1, 3, 50) -> 3; clay(5) -> 9; account(12) -> 12
                """);
        test(3, "how much, 1 to 99", """
                clay(0) -> throws IllegalArgumentException; clay(100) -> throws IllegalArgumentException; clay(1) -> 1
                clay(99) -> 100; account(12) -> 100
                """);
        test(3, "Returns the stock then.", "clay(1) -> 1; clay(99) -> 100; cast(3, 20, 50) -> 20; clay(3) -> 23; account(13) -> 23");
        test(3, "Throws `IllegalArgumentException` if the amount is out of range", """
                clay(-1) -> throws IllegalArgumentException; clay(-2147483648) -> throws IllegalArgumentException
                clay(2147483647) -> throws IllegalArgumentException; account(13) -> 0; account(12) -> 0; account(18) -> 0
                refusal(0, false) -> throws NoSuchElementException
                """);
        test(3, "Throws `UnsupportedOperationException` if it is refused for reason 1, with the detail 999; the reason is kept for refusal",
                """
                10 x clay(99) -> 990; clay(10) -> throws UnsupportedOperationException; refusal(0, false) -> 1
                refusal(0, true) -> 999; refusal(1, false) -> throws NoSuchElementException; account(13) -> 990
                account(12) -> 990
                clay(9) -> 999; clay(1) -> throws UnsupportedOperationException
                clay(99) -> throws UnsupportedOperationException
                account(13) -> 999; cast(1, 1, 50) -> 1; clay(2) -> throws UnsupportedOperationException; clay(1) -> 999
                """);
    }

    private static void cast() {
        test(4, "Throws wares of one kind, which are green.", """
                clay(99) -> 99; cast(2, 20, 59) -> 20; cast(0, 1, 30) -> 21; ware(0, 0) -> 2; ware(19, 0) -> 2
                ware(20, 0) -> 0
                ware(0, 2) -> 0; ware(19, 2) -> 0; ware(19, 1) -> 59; ware(20, 1) -> 30; ware(19, 3) -> -1
                ware(19, 5) -> -1
                ware(19, 6) -> 0; account(1) -> 21; account(13) -> 37
                """);
        test(4, "how many, 1 to 20", """
                clay(99) -> 99; cast(1, 0, 50) -> throws IllegalArgumentException
                cast(1, 21, 50) -> throws IllegalArgumentException
                account(0) -> 0; cast(1, 1, 50) -> 1; cast(1, 20, 50) -> 21; account(13) -> 78
                """);
        test(4, "Returns how many wares there are then, of all states.", STORED + """
                order(0, 1, 0, 0, 3, false) -> 0; sell(0) -> 1; put(3, 0) -> 5; fire(1000) -> 0; empty(0) -> 0
                put(4, 0) -> 5
                cast(0, 2, 50) -> 7; cast(3, 1, 50) -> 8; account(0) -> 8
                """);
        test(4, "Throws `IllegalArgumentException` if a number is out of range", """
                clay(99) -> 99; cast(-1, 1, 50) -> throws IllegalArgumentException
                cast(4, 1, 50) -> throws IllegalArgumentException
                cast(1, -1, 50) -> throws IllegalArgumentException; cast(1, 1, 29) -> throws IllegalArgumentException
                cast(1, 1, 61) -> throws IllegalArgumentException
                cast(1, -2147483648, 50) -> throws IllegalArgumentException
                cast(1, 2147483647, 50) -> throws IllegalArgumentException
                cast(3, 1073741824, 50) -> throws IllegalArgumentException
                cast(-2147483648, 1, 50) -> throws IllegalArgumentException
                cast(2147483647, 1, 50) -> throws IllegalArgumentException
                cast(1, 1, -2147483648) -> throws IllegalArgumentException
                cast(1, 1, 2147483647) -> throws IllegalArgumentException
                account(0) -> 0; account(13) -> 99; account(18) -> 1; refusal(0, false) -> throws NoSuchElementException
                """);
        test(4, "Throws `UnsupportedOperationException` if it is refused for reason 1, with the detail 60, or 2; the reason is kept for refusal",
                """
                cast(1, 1, 50) -> throws UnsupportedOperationException; refusal(0, false) -> 2; refusal(0, true) -> 0
                clay(60) -> 60; cast(3, 16, 50) -> throws UnsupportedOperationException; refusal(0, false) -> 2
                refusal(0, true) -> 60; refusal(1, false) -> throws NoSuchElementException; 2 x cast(1, 20, 50) -> 40
                cast(1, 1, 50) -> 41; cast(1, 20, 50) -> throws UnsupportedOperationException; refusal(0, false) -> 1
                refusal(0, true) -> 60; refusal(1, false) -> throws NoSuchElementException; account(0) -> 41
                cast(1, 19, 50) -> 60; account(13) -> 0; cast(1, 1, 50) -> throws UnsupportedOperationException
                refusal(0, false) -> 1; refusal(0, true) -> 60
                """);
    }

    private static void glaze() {
        test(5, "Glazes a green ware, in place of what glaze it has.", """
                clay(9) -> 9; cast(1, 2, 50) -> 2; glaze(1, 0, 9) -> 1144; ware(1, 3) -> 0; ware(1, 4) -> 9
                glaze(1, 3, 1) -> 1236
                ware(1, 3) -> 3; ware(1, 4) -> 1; ware(1, 2) -> 0; ware(0, 3) -> -1; undo() -> 3; ware(1, 3) -> 0
                """);
        test(5, "Returns the heat at which it melts.", """
                clay(9) -> 9; cast(1, 1, 50) -> 1; glaze(0, 0, 9) -> 1144; glaze(0, 0, 1) -> 1176; glaze(0, 3, 9) -> 1204
                glaze(0, 3, 1) -> 1236; glaze(0, 1, 5) -> 1180; glaze(0, 2, 5) -> 1200
                """);
        test(5, "Throws `IndexOutOfBoundsException` if there is no such ware", """
                glaze(0, 0, 1) -> throws IndexOutOfBoundsException; clay(60) -> 60; 3 x cast(1, 20, 50) -> 60
                glaze(60, 0, 1) -> throws IndexOutOfBoundsException; glaze(-1, 0, 1) -> throws IndexOutOfBoundsException
                glaze(-2147483648, 0, 1) -> throws IndexOutOfBoundsException
                glaze(2147483647, 0, 1) -> throws IndexOutOfBoundsException
                glaze(59, 0, 1) -> 1176; glaze(0, 0, 1) -> 1176; undo() -> 5; undo() -> 4; undo() -> 3
                glaze(59, 0, 1) -> throws IndexOutOfBoundsException
                """);
        test(5, "Throws `IllegalArgumentException` if a number is out of range", """
                clay(9) -> 9; cast(1, 1, 50) -> 1; glaze(0, -1, 1) -> throws IllegalArgumentException
                glaze(0, 4, 1) -> throws IllegalArgumentException; glaze(0, 0, 0) -> throws IllegalArgumentException
                glaze(0, 0, 10) -> throws IllegalArgumentException
                glaze(0, -2147483648, 1) -> throws IllegalArgumentException
                glaze(0, 2147483647, 1) -> throws IllegalArgumentException
                glaze(0, 0, -2147483648) -> throws IllegalArgumentException
                glaze(0, 0, 2147483647) -> throws IllegalArgumentException; ware(0, 3) -> -1; ware(0, 4) -> 0
                account(18) -> 2
                """);
        test(5, "Throws `UnsupportedOperationException` if it is refused for reason 3; the reason is kept for refusal",
                STORED + """
                glaze(0, 0, 1) -> throws UnsupportedOperationException; refusal(0, false) -> 3; refusal(0, true) -> 3
                refusal(1, true) -> throws NoSuchElementException; put(3, 0) -> 5
                glaze(3, 0, 1) -> throws UnsupportedOperationException; refusal(0, true) -> 1; empty(0) -> 0
                glaze(3, 0, 1) -> 1176
                ware(0, 3) -> 3
                """);
    }

    private static void saggar() {
        test(6, "Adds a saggar on the floor.", """
                saggar() -> 0; saggarOf(0, 0) -> 6; saggarOf(0, 1) -> -1; saggarOf(0, 2) -> -1; saggarOf(0, 3) -> -1
                saggarOf(0, 4) -> -1
                saggarOf(0, 5) -> 3; saggarOf(0, 6) -> 0; load(0) -> 0; account(8) -> 0; stack(0, -1, 2) -> 0
                undo() -> 1; undo() -> 0
                saggar() -> 0; saggarOf(0, 1) -> -1
                """);
        test(6, "Returns its number.", "saggar() -> 0; saggar() -> 1; undo() -> 1; saggar() -> 1; 6 x saggar() -> 7; account(7) -> 8");
        test(6, "Throws `UnsupportedOperationException` if it is refused for reason 1; the reason is kept for refusal",
                """
                7 x saggar() -> 6; refusal(0, false) -> throws NoSuchElementException; saggar() -> 7
                saggar() -> throws UnsupportedOperationException; refusal(0, false) -> 1; refusal(0, true) -> 8
                refusal(1, false) -> throws NoSuchElementException; account(7) -> 8; account(18) -> 8; undo() -> 7
                saggar() -> 7
                """);
    }

    private static void stack() {
        test(7, "Stands a saggar, with what it holds, from the floor into the kiln.", SAUCERS + """
                saggar() -> 1; put(0, 1) -> 5; put(2, 1) -> 4; stack(1, -1, 3) -> 0; saggarOf(1, 1) -> 0
                saggarOf(1, 2) -> 3
                saggarOf(1, 6) -> 2; ware(0, 5) -> 1; account(8) -> 2; fire(1250) -> 1
                """);
        test(7, "the saggar on which it shall stand, or -1 for the foot of the bung", """
                3 x saggar() -> 2; stack(0, -1, 1) -> 0; stack(1, 0, 1) -> 1; saggarOf(1, 4) -> 0; saggarOf(0, 4) -> -1
                stack(2, -2, 2) -> throws IndexOutOfBoundsException; stack(2, -1, 2) -> 0; saggarOf(2, 4) -> -1
                """);
        test(7, "the bung, if it shall stand at its foot; otherwise it does not matter", """
                5 x saggar() -> 4; stack(0, -1, 2) -> 0; stack(1, 0, 0) -> 1; stack(2, 1, -1) -> 2; stack(3, 2, 4) -> 3
                stack(4, 3, -2147483648) -> 4; saggarOf(4, 2) -> 2; unstack(4) -> 4; stack(4, 3, 2147483647) -> 4
                saggarOf(1, 2) -> 2; saggarOf(3, 2) -> 2
                """);
        test(7, "Returns its level.", """
                4 x saggar() -> 3; stack(3, -1, 0) -> 0; stack(1, 3, 0) -> 1; stack(0, 1, 0) -> 2; stack(2, 0, 0) -> 3
                saggarOf(2, 1) -> 3
                """);
        test(7, "Throws `IndexOutOfBoundsException` if there is no such saggar", """
                stack(0, -1, 0) -> throws IndexOutOfBoundsException; 8 x saggar() -> 7
                stack(8, -1, 0) -> throws IndexOutOfBoundsException
                stack(-1, -1, 0) -> throws IndexOutOfBoundsException
                stack(-2147483648, -1, 0) -> throws IndexOutOfBoundsException
                stack(2147483647, -1, 0) -> throws IndexOutOfBoundsException; stack(7, -1, 0) -> 0
                """);
        test(7, "onto is not -1 and no such saggar", """
                saggar() -> 0; stack(0, 1, 0) -> throws IndexOutOfBoundsException
                stack(0, -2, 0) -> throws IndexOutOfBoundsException
                stack(0, -2147483648, 0) -> throws IndexOutOfBoundsException
                stack(0, 2147483647, 0) -> throws IndexOutOfBoundsException
                7 x saggar() -> 7; stack(0, 8, 0) -> throws IndexOutOfBoundsException; account(8) -> 0
                """);
        test(7, "or it is -1 and there is no such bung", """
                saggar() -> 0; stack(0, -1, -1) -> throws IndexOutOfBoundsException
                stack(0, -1, 4) -> throws IndexOutOfBoundsException
                stack(0, -1, -2147483648) -> throws IndexOutOfBoundsException
                stack(0, -1, 2147483647) -> throws IndexOutOfBoundsException
                account(8) -> 0; stack(0, -1, 3) -> 0; unstack(0) -> 0; stack(0, -1, 0) -> 0
                """);
        test(7, "Throws `IllegalArgumentException` if both saggars are the same", """
                2 x saggar() -> 1; stack(0, 0, 0) -> throws IllegalArgumentException
                stack(1, 1, 9) -> throws IllegalArgumentException
                stack(1, -1, 0) -> 0; stack(1, 1, 0) -> throws IllegalArgumentException
                stack(2, 2, 0) -> throws IndexOutOfBoundsException
                refusal(0, false) -> throws NoSuchElementException; account(18) -> 3
                """);
        test(7, "Throws `UnsupportedOperationException` if it is refused for reason 5 for the saggar, 5 for the one on which it shall stand, 6 or 7; the reason is kept for refusal",
                """
                set(2, 5) -> 16; 4 x saggar() -> 3; stack(0, 1, 0) -> throws UnsupportedOperationException
                refusal(0, false) -> 5
                refusal(0, true) -> 1; stack(0, -1, 0) -> 0; stack(0, 1, 0) -> throws UnsupportedOperationException
                refusal(0, false) -> 5; refusal(0, true) -> 0; stack(1, -1, 0) -> throws UnsupportedOperationException
                refusal(0, false) -> 6; refusal(0, true) -> 0; stack(1, 0, 0) -> 1
                stack(2, 1, 0) -> throws UnsupportedOperationException
                refusal(0, false) -> 7; refusal(0, true) -> 0; refusal(1, false) -> throws NoSuchElementException
                stack(2, 0, 0) -> throws UnsupportedOperationException; refusal(0, false) -> 6; refusal(0, true) -> 1
                account(8) -> 2
                """);
    }

    private static void unstack() {
        test(8, "Stands a saggar, with what it holds, from the kiln onto the floor.", SAUCERS + """
                put(0, 0) -> 5; fire(1250) -> 1; put(2, 0) -> 4; unstack(0) -> 0; saggarOf(0, 1) -> -1
                saggarOf(0, 2) -> -1
                saggarOf(0, 6) -> 2; ware(0, 2) -> 2; ware(2, 2) -> 1; account(8) -> 0
                heatAt(0, 1200) -> throws NoSuchElementException
                """);
        test(8, "Returns the level that it had.", """
                set(2, 40) -> 16; 8 x saggar() -> 7; stack(0, -1, 3) -> 0; stack(1, 0, 0) -> 1; stack(2, 1, 0) -> 2
                stack(3, 2, 0) -> 3; stack(4, 3, 0) -> 4; stack(5, 4, 0) -> 5; stack(6, 5, 0) -> 6; stack(7, 6, 0) -> 7
                unstack(7) -> 7; unstack(6) -> 6; unstack(5) -> 5; unstack(4) -> 4; unstack(3) -> 3; unstack(2) -> 2
                unstack(1) -> 1
                unstack(0) -> 0
                """);
        test(8, "Throws `IndexOutOfBoundsException` if there is no such saggar", """
                unstack(0) -> throws IndexOutOfBoundsException; saggar() -> 0; stack(0, -1, 0) -> 0
                unstack(1) -> throws IndexOutOfBoundsException; unstack(-1) -> throws IndexOutOfBoundsException
                unstack(-2147483648) -> throws IndexOutOfBoundsException
                unstack(2147483647) -> throws IndexOutOfBoundsException
                unstack(0) -> 0; 7 x saggar() -> 7; unstack(8) -> throws IndexOutOfBoundsException
                """);
        test(8, "Throws `UnsupportedOperationException` if it is refused for reason 5 or 8; the reason is kept for refusal",
                """
                3 x saggar() -> 2; unstack(2) -> throws UnsupportedOperationException; refusal(0, false) -> 5
                refusal(0, true) -> 2
                stack(2, -1, 0) -> 0; stack(1, 2, 0) -> 1; unstack(2) -> throws UnsupportedOperationException
                refusal(0, false) -> 8
                refusal(0, true) -> 1; refusal(1, false) -> throws NoSuchElementException; account(8) -> 2
                unstack(1) -> 1
                unstack(1) -> throws UnsupportedOperationException; refusal(0, false) -> 5; refusal(0, true) -> 1
                unstack(2) -> 0
                """);
    }

    private static void put() {
        test(9, "Puts a green ware into a saggar, on the floor or in the kiln.", SAUCERS + """
                saggar() -> 1; put(0, 1) -> 5; put(1, 0) -> 5; ware(0, 2) -> 1; ware(0, 5) -> 1; ware(1, 2) -> 1
                ware(1, 5) -> 0
                saggarOf(0, 6) -> 1; saggarOf(1, 6) -> 1; account(1) -> 3; account(2) -> 2
                """);
        test(9, "Returns the size that is free in the saggar then.", """
                clay(99) -> 99; cast(0, 1, 50) -> 1; cast(3, 2, 50) -> 3; cast(1, 1, 50) -> 4; cast(2, 1, 50) -> 5
                2 x saggar() -> 1
                put(0, 0) -> 4; put(1, 0) -> 0; put(2, 1) -> 2; put(3, 1) -> 1; saggarOf(0, 0) -> 0; saggarOf(1, 0) -> 1
                """);
        test(9, "Throws `IndexOutOfBoundsException` if there is no such ware or saggar", """
                put(0, 0) -> throws IndexOutOfBoundsException; saggar() -> 0
                put(0, 0) -> throws IndexOutOfBoundsException
                clay(60) -> 60; 3 x cast(1, 20, 50) -> 60; put(60, 0) -> throws IndexOutOfBoundsException
                put(-1, 0) -> throws IndexOutOfBoundsException; put(-2147483648, 0) -> throws IndexOutOfBoundsException
                put(2147483647, 0) -> throws IndexOutOfBoundsException; put(59, 1) -> throws IndexOutOfBoundsException
                put(59, -1) -> throws IndexOutOfBoundsException; put(59, -2147483648) -> throws IndexOutOfBoundsException
                put(59, 2147483647) -> throws IndexOutOfBoundsException; 7 x saggar() -> 7
                put(59, 8) -> throws IndexOutOfBoundsException
                put(59, 7) -> 5; put(0, 0) -> 5; account(2) -> 2
                """);
        test(9, "Throws `UnsupportedOperationException` if it is refused for reason 3, 4 or 7; the reason is kept for refusal",
                SAUCERS + """
                cast(3, 2, 50) -> 7; put(0, 0) -> 5; put(0, 0) -> throws UnsupportedOperationException
                refusal(0, false) -> 3
                refusal(0, true) -> 1; put(5, 0) -> 1; put(6, 0) -> throws UnsupportedOperationException
                refusal(0, false) -> 4
                refusal(0, true) -> 1; set(2, 5) -> 16; saggar() -> 1; stack(1, 0, 0) -> 1
                put(6, 1) -> throws UnsupportedOperationException
                refusal(0, false) -> 7; refusal(0, true) -> 0; refusal(1, false) -> throws NoSuchElementException
                put(1, 1) -> 5
                put(2, 1) -> 4; put(3, 1) -> throws UnsupportedOperationException; refusal(0, false) -> 7; put(3, 0) -> 0
                put(4, 0) -> throws UnsupportedOperationException; refusal(0, false) -> 4; refusal(0, true) -> 0
                """);
    }

    private static void fire() {
        test(10, "Fires.", SAUCERS + """
                put(0, 0) -> 5; fire(1250) -> 1; ware(0, 2) -> 2; ware(0, 6) -> 1; account(11) -> 1; put(2, 0) -> 4
                fire(1250) -> 0
                account(11) -> 2; undo() -> 7; account(11) -> 1
                """);
        test(10, "Returns how many wares are firsts.", SAUCERS + """
                saggar() -> 1; stack(1, -1, 1) -> 0; put(0, 0) -> 5; put(1, 1) -> 5; put(2, 1) -> 4; fire(1250) -> 2
                undo() -> 7
                fire(1239) -> 1; undo() -> 7; fire(1240) -> 2; undo() -> 7; fire(1276) -> 1; undo() -> 7; fire(1400) -> 0
                """);
        test(10, "Throws `IllegalArgumentException` if the heat is out of range", SAUCERS + """
                put(0, 0) -> 5; fire(999) -> throws IllegalArgumentException
                fire(1401) -> throws IllegalArgumentException
                fire(-1) -> throws IllegalArgumentException; fire(-2147483648) -> throws IllegalArgumentException
                fire(2147483647) -> throws IllegalArgumentException; ware(0, 2) -> 1; account(11) -> 0; fire(1400) -> 0
                undo() -> 7
                fire(1000) -> 0; account(11) -> 1
                """);
        test(10, "Throws `UnsupportedOperationException` if it is refused for reason 9; the reason is kept for refusal",
                """
                fire(1200) -> throws UnsupportedOperationException; refusal(0, false) -> 9; refusal(0, true) -> 0
                refusal(1, false) -> throws NoSuchElementException; saggar() -> 0; stack(0, -1, 0) -> 0; saggar() -> 1
                clay(9) -> 9
                cast(1, 2, 50) -> 2; fire(1200) -> throws UnsupportedOperationException; put(0, 1) -> 5
                fire(1200) -> throws UnsupportedOperationException; account(11) -> 0; put(1, 0) -> 5; fire(1200) -> 0
                fire(1200) -> throws UnsupportedOperationException; refusal(0, false) -> 9; account(11) -> 1
                """);
    }

    private static void empty() {
        test(11, "Empties a saggar, on the floor or in the kiln.", SAUCERS + """
                saggar() -> 1; put(0, 0) -> 5; put(1, 1) -> 5; fire(1250) -> 1; empty(1) -> 0; ware(1, 2) -> 0
                ware(0, 2) -> 2
                empty(0) -> 1; ware(0, 2) -> 3; saggarOf(0, 6) -> 0; saggarOf(1, 6) -> 0; saggarOf(0, 0) -> 6
                saggarOf(0, 1) -> 0
                saggarOf(1, 1) -> -1
                """);
        test(11, "Returns how many wares come to the store.", SAUCERS + """
                put(0, 0) -> 5; fire(1250) -> 1; put(1, 0) -> 4; fire(1276) -> 0; put(2, 0) -> 3; fire(1000) -> 0
                put(3, 0) -> 2
                empty(0) -> 2; account(4) -> 2; account(6) -> 1; account(1) -> 2; put(3, 0) -> 5; empty(0) -> 0
                put(3, 0) -> 5
                fire(1000) -> 0; empty(0) -> 0
                """);
        test(11, "Throws `IndexOutOfBoundsException` if there is no such saggar", """
                empty(0) -> throws IndexOutOfBoundsException; 8 x saggar() -> 7
                empty(8) -> throws IndexOutOfBoundsException
                empty(-1) -> throws IndexOutOfBoundsException; empty(-2147483648) -> throws IndexOutOfBoundsException
                empty(2147483647) -> throws IndexOutOfBoundsException; empty(7) -> throws UnsupportedOperationException
                """);
        test(11, "Throws `UnsupportedOperationException` if it is refused for reason 9; the reason is kept for refusal",
                SAUCERS + """
                saggar() -> 1; empty(0) -> throws UnsupportedOperationException; refusal(0, false) -> 9
                refusal(0, true) -> 0
                empty(1) -> throws UnsupportedOperationException; refusal(0, true) -> 0; put(0, 1) -> 5
                empty(0) -> throws UnsupportedOperationException; refusal(1, false) -> throws NoSuchElementException
                empty(1) -> 0
                empty(1) -> throws UnsupportedOperationException; refusal(0, false) -> 9
                """);
    }

    private static void order() {
        test(12, "Adds an order.", """
                order(1, 2, 3, 4, 2, true) -> 0; orderOf(0, 0) -> 1; orderOf(0, 1) -> 2; orderOf(0, 2) -> 3
                orderOf(0, 3) -> 4
                orderOf(0, 4) -> 2; orderOf(0, 5) -> 1; orderOf(0, 6) -> 0; order(6, 0, 0, 0, 0, false) -> 1
                orderOf(1, 0) -> 6
                orderOf(1, 1) -> 0; orderOf(1, 5) -> 0; orderOf(0, 0) -> 1; account(9) -> 2; undo() -> 1
                order(0, 0, 0, 6, 3, true) -> 1; orderOf(1, 0) -> 0; orderOf(1, 3) -> 6; orderOf(1, 5) -> 1
                orderOf(1, 4) -> 3
                """);
        test(12, "Returns its number.", """
                order(1, 0, 0, 0, 0, true) -> 0; order(1, 0, 0, 0, 0, true) -> 1; undo() -> 1
                order(1, 0, 0, 0, 0, true) -> 1
                4 x order(1, 0, 0, 0, 0, true) -> 5
                """);
        test(12, "Throws `IllegalArgumentException` if a number is out of range", """
                order(7, 1, 1, 1, 0, true) -> throws IllegalArgumentException
                order(1, 7, 1, 1, 0, true) -> throws IllegalArgumentException
                order(1, 1, 7, 1, 0, true) -> throws IllegalArgumentException
                order(1, 1, 1, 7, 0, true) -> throws IllegalArgumentException
                order(-1, 1, 1, 1, 0, true) -> throws IllegalArgumentException
                order(1, -1, 1, 1, 0, true) -> throws IllegalArgumentException
                order(1, 1, -1, 1, 0, true) -> throws IllegalArgumentException
                order(1, 1, 1, -1, 0, true) -> throws IllegalArgumentException
                order(1, 1, 1, 1, -1, true) -> throws IllegalArgumentException
                order(1, 1, 1, 1, 4, true) -> throws IllegalArgumentException
                order(2147483647, 1, 1, 1, 0, true) -> throws IllegalArgumentException
                order(1, -2147483648, 1, 1, 0, true) -> throws IllegalArgumentException
                order(1, 1, 2147483647, 1, 0, true) -> throws IllegalArgumentException
                order(1, 1, 1, -2147483648, 0, true) -> throws IllegalArgumentException
                order(1, 1, 1, 1, 2147483647, true) -> throws IllegalArgumentException
                order(1, 1, 1, 1, -2147483648, true) -> throws IllegalArgumentException; account(9) -> 0
                """);
        test(12, "or the set is empty", """
                order(0, 0, 0, 0, 0, true) -> throws IllegalArgumentException
                order(0, 0, 0, 0, 3, false) -> throws IllegalArgumentException
                account(9) -> 0; order(0, 0, 0, 1, 0, false) -> 0; order(0, 0, 1, 0, 0, false) -> 1
                order(0, 1, 0, 0, 0, false) -> 2
                order(1, 0, 0, 0, 0, false) -> 3
                # numbers that would be nothing if one was taken from another
                order(1, 0, 0, 1, 0, false) -> 4; order(1, 1, 0, 0, 0, false) -> 5; undo() -> 5
                order(0, 1, 1, 0, 0, false) -> 5
                undo() -> 5; order(0, 0, 1, 1, 0, false) -> 5; undo() -> 5; order(1, 0, 1, 0, 0, false) -> 5; undo() -> 5
                order(0, 1, 0, 1, 0, false) -> 5; undo() -> 5; order(1, 1, 1, 3, 0, false) -> 5
                """);
        test(12, "Throws `UnsupportedOperationException` if it is refused for reason 1; the reason is kept for refusal",
                """
                6 x order(1, 0, 0, 0, 0, true) -> 5; refusal(0, false) -> throws NoSuchElementException
                order(1, 0, 0, 0, 0, true) -> throws UnsupportedOperationException; refusal(0, false) -> 1
                refusal(0, true) -> 6
                refusal(1, true) -> throws NoSuchElementException; account(9) -> 6; account(18) -> 6; undo() -> 5
                order(2, 0, 0, 0, 0, true) -> 5
                """);
    }

    private static void sell() {
        test(13, "Sells a set for an order.", STORED + """
                order(0, 2, 0, 0, 3, false) -> 0; sell(0) -> 1; ware(0, 2) -> 4; ware(1, 2) -> 4; ware(2, 2) -> 3
                account(10) -> 1
                account(5) -> 2; orderOf(0, 6) -> 1; undo() -> 7; account(10) -> 0; account(5) -> 0; account(4) -> 3
                """);
        test(13, "Returns how many sets were sold for it so far.", STORED + """
                order(0, 1, 0, 0, 3, false) -> 0; order(0, 1, 0, 0, 3, true) -> 1; sell(0) -> 1; sell(1) -> 1; undo() -> 7
                sell(0) -> 2; account(10) -> 2; undo() -> 7; undo() -> 6; sell(0) -> 1
                """);
        test(13, "Throws `IndexOutOfBoundsException` if there is no such order", """
                sell(0) -> throws IndexOutOfBoundsException; 6 x order(0, 1, 0, 0, 3, false) -> 5
                sell(6) -> throws IndexOutOfBoundsException
                sell(-1) -> throws IndexOutOfBoundsException; sell(-2147483648) -> throws IndexOutOfBoundsException
                sell(2147483647) -> throws IndexOutOfBoundsException; refusal(0, false) -> throws NoSuchElementException
                sell(5) -> throws UnsupportedOperationException
                """);
        test(13, "Throws `UnsupportedOperationException` if it is refused for reason 10; the reason is kept for refusal",
                STORED + """
                order(0, 3, 0, 0, 3, true) -> 0; order(0, 2, 1, 0, 3, true) -> 1; order(0, 2, 0, 0, 3, true) -> 2
                sell(0) -> throws UnsupportedOperationException; refusal(0, false) -> 10; refusal(0, true) -> 0
                account(5) -> 0
                sell(1) -> throws UnsupportedOperationException; refusal(0, true) -> 1; refusal(1, true) -> 2
                account(5) -> 0
                account(4) -> 3; orderOf(1, 6) -> 0; sell(2) -> 1; sell(2) -> throws UnsupportedOperationException
                refusal(0, true) -> 2; orderOf(2, 6) -> 1
                """);
    }

    private static void ware() {
        untested(14, "Returns a number of a ware.", "Returns the number.");
        test(14, "0 for its kind, 1 for its share of bone, 2 for its state, 3 for its glaze, -1 without one, 4 for its thickness, 0 without one",
                STORED + """
                cast(3, 1, 60) -> 6; ware(5, 0) -> 3; ware(5, 1) -> 60; ware(5, 2) -> 0; ware(5, 3) -> -1; ware(5, 4) -> 0
                ware(0, 0) -> 1; ware(0, 1) -> 50; ware(0, 2) -> 3; ware(0, 3) -> 3; ware(0, 4) -> 1; ware(2, 3) -> -1
                ware(2, 4) -> 0
                glaze(5, 0, 9) -> 1144; ware(5, 3) -> 0; ware(5, 4) -> 9
                """);
        test(14, "5 for its saggar, -1 if it is in none", SAUCERS + """
                ware(0, 5) -> -1; put(0, 0) -> 5; ware(0, 5) -> 0; fire(1250) -> 1; ware(0, 5) -> 0; unstack(0) -> 0
                ware(0, 5) -> 0
                7 x saggar() -> 7; put(1, 7) -> 5; ware(1, 5) -> 7; empty(0) -> 1; ware(0, 5) -> -1
                order(0, 1, 0, 0, 3, false) -> 0
                sell(0) -> 1; ware(0, 5) -> -1
                """);
        test(14, "6 for 1 if it is a first, 2 a second, 3 a waster, 0 if it was not fired, 7 for its need", SAUCERS + """
                ware(0, 6) -> 0; put(0, 0) -> 5; ware(0, 6) -> 0; fire(1250) -> 1; ware(0, 6) -> 1; put(1, 0) -> 4
                fire(1276) -> 0
                ware(1, 6) -> 2; put(2, 0) -> 3; fire(1234) -> 0; ware(2, 6) -> 3; put(3, 0) -> 2; empty(0) -> 2
                ware(3, 6) -> 0
                ware(0, 6) -> 1; ware(1, 6) -> 2; ware(2, 6) -> 3; ware(0, 7) -> 1235; cast(1, 1, 30) -> 6
                ware(5, 7) -> 1265
                """);
        test(14, "Throws `IndexOutOfBoundsException` if there is no such ware", """
                ware(0, 0) -> throws IndexOutOfBoundsException; clay(60) -> 60; 3 x cast(1, 20, 50) -> 60
                ware(59, 7) -> 1235
                ware(60, 7) -> throws IndexOutOfBoundsException; ware(-1, 0) -> throws IndexOutOfBoundsException
                ware(-2147483648, 0) -> throws IndexOutOfBoundsException
                ware(2147483647, 0) -> throws IndexOutOfBoundsException
                undo() -> 3; ware(40, 0) -> throws IndexOutOfBoundsException; ware(39, 0) -> 1
                """);
        test(14, "Throws `IllegalArgumentException` if what is not from 0 to 7", """
                clay(9) -> 9; cast(1, 1, 50) -> 1; ware(0, -1) -> throws IllegalArgumentException
                ware(0, 8) -> throws IllegalArgumentException
                ware(0, -2147483648) -> throws IllegalArgumentException
                ware(0, 2147483647) -> throws IllegalArgumentException
                ware(0, 0) -> 1; ware(0, 7) -> 1235
                """);
    }

    private static void saggarOf() {
        untested(15, "Returns a number of a saggar.", "Returns the number.");
        test(15, "0 for the size that is free, 1 for its level, -1 on the floor, 2 for its bung, -1 on the floor",
                SAUCERS + """
                saggar() -> 1; saggarOf(0, 0) -> 6; saggarOf(1, 0) -> 6; saggarOf(1, 1) -> -1; saggarOf(1, 2) -> -1
                saggarOf(0, 1) -> 0; saggarOf(0, 2) -> 0; put(0, 0) -> 5; saggarOf(0, 0) -> 5
                "t3*1;p5@1;t0*1;p6@1" -> 19; read() -> 4
                saggarOf(1, 0) -> 0; stack(1, 0, 3) -> 1; saggarOf(1, 1) -> 1; saggarOf(1, 2) -> 0
                """);
        test(15, "3 for the saggar on it, -1 without one, 4 for the saggar below it, -1 without one", """
                4 x saggar() -> 3; saggarOf(0, 3) -> -1; saggarOf(0, 4) -> -1; stack(2, -1, 3) -> 0; saggarOf(2, 3) -> -1
                saggarOf(2, 4) -> -1; stack(0, 2, 0) -> 1; saggarOf(2, 3) -> 0; saggarOf(0, 4) -> 2; saggarOf(0, 3) -> -1
                stack(1, -1, 0) -> 0; saggarOf(1, 3) -> -1; saggarOf(1, 4) -> -1; saggarOf(3, 3) -> -1
                saggarOf(3, 4) -> -1
                unstack(0) -> 1; saggarOf(2, 3) -> -1; saggarOf(0, 4) -> -1
                """);
        test(15, "5 for its weight with what it holds, 6 for its wares", SAUCERS + """
                saggarOf(0, 5) -> 3; saggarOf(0, 6) -> 0; put(0, 0) -> 5; put(1, 0) -> 4; fire(1250) -> 2; put(2, 0) -> 3
                saggarOf(0, 5) -> 6; saggarOf(0, 6) -> 3; cast(2, 1, 50) -> 6; put(5, 0) -> 0; saggarOf(0, 5) -> 9
                saggarOf(0, 6) -> 4
                saggar() -> 1; saggarOf(1, 5) -> 3; saggarOf(1, 6) -> 0; empty(0) -> 2; saggarOf(0, 5) -> 3
                saggarOf(0, 6) -> 0
                """);
        test(15, "Throws `IndexOutOfBoundsException` if there is no such saggar", """
                saggarOf(0, 0) -> throws IndexOutOfBoundsException; 8 x saggar() -> 7; saggarOf(7, 6) -> 0
                saggarOf(8, 6) -> throws IndexOutOfBoundsException; saggarOf(-1, 0) -> throws IndexOutOfBoundsException
                saggarOf(-2147483648, 0) -> throws IndexOutOfBoundsException
                saggarOf(2147483647, 0) -> throws IndexOutOfBoundsException
                undo() -> 7; saggarOf(7, 0) -> throws IndexOutOfBoundsException
                """);
        test(15, "Throws `IllegalArgumentException` if what is not from 0 to 6", """
                saggar() -> 0; saggarOf(0, -1) -> throws IllegalArgumentException
                saggarOf(0, 7) -> throws IllegalArgumentException
                saggarOf(0, -2147483648) -> throws IllegalArgumentException
                saggarOf(0, 2147483647) -> throws IllegalArgumentException
                saggarOf(0, 0) -> 6; saggarOf(0, 6) -> 0
                """);
    }

    private static final String BUNGS = SAUCERS + """
            cast(3, 1, 50) -> 6; 4 x saggar() -> 4; stack(1, 0, 0) -> 1; stack(2, 1, 0) -> 2; stack(3, -1, 3) -> 0
            put(0, 0) -> 5
            put(1, 1) -> 5; put(5, 2) -> 2; put(2, 3) -> 5; put(3, 4) -> 5
            """;

    private static void load() {
        test(16, "Returns the load of a saggar.", BUNGS + """
                load(0) -> 11; load(1) -> 7; load(2) -> 0; load(3) -> 0; empty(2) -> 0; load(0) -> 7; load(1) -> 3
                unstack(2) -> 2
                load(0) -> 4; load(1) -> 0
                """);
        test(16, "Returns the load, 0 on the floor.", BUNGS + "load(4) -> 0; stack(4, 3, 0) -> 1; load(3) -> 4; unstack(4) -> 1; load(4) -> 0; load(3) -> 0");
        test(16, "Throws `IndexOutOfBoundsException` if there is no such saggar", """
                load(0) -> throws IndexOutOfBoundsException; 8 x saggar() -> 7
                load(8) -> throws IndexOutOfBoundsException
                load(-1) -> throws IndexOutOfBoundsException; load(-2147483648) -> throws IndexOutOfBoundsException
                load(2147483647) -> throws IndexOutOfBoundsException; load(7) -> 0
                """);
    }

    private static void loadAgain() {
        test(17, "the weight of all saggars of its bung with what they hold, less its own one and those below it", BUNGS + """
                loadAgain(0) -> 11; loadAgain(1) -> 7; loadAgain(2) -> 0; loadAgain(3) -> 0; empty(2) -> 0
                loadAgain(0) -> 7
                loadAgain(1) -> 3; unstack(2) -> 2; loadAgain(0) -> 4; loadAgain(1) -> 0; unstack(1) -> 1; unstack(0) -> 0
                # the lowest number above the highest
                3 x saggar() -> 7; stack(7, -1, 0) -> 0; stack(0, 7, 0) -> 1; loadAgain(7) -> 4; loadAgain(0) -> 0
                """);
        test(17, "Returns the load, 0 on the floor.", BUNGS + """
                loadAgain(4) -> 0; stack(4, 3, 0) -> 1; loadAgain(3) -> 4; unstack(4) -> 1; loadAgain(4) -> 0
                loadAgain(3) -> 0
                3 x saggar() -> 7; loadAgain(5) -> 0; loadAgain(7) -> 0
                """);
        test(17, "Throws `IndexOutOfBoundsException` if there is no such saggar", """
                loadAgain(0) -> throws IndexOutOfBoundsException; 8 x saggar() -> 7
                loadAgain(8) -> throws IndexOutOfBoundsException
                loadAgain(-1) -> throws IndexOutOfBoundsException
                loadAgain(-2147483648) -> throws IndexOutOfBoundsException
                loadAgain(2147483647) -> throws IndexOutOfBoundsException; loadAgain(7) -> 0
                """);
    }

    private static void orderOf() {
        untested(18, "Returns a number of an order.", "Returns the number.");
        test(18, "0 to 3 for how many wares of the kind are in its set, 4 for its glaze, 5 for 1 if seconds may be taken and 0 otherwise",
                """
                order(6, 5, 4, 3, 0, true) -> 0; order(0, 1, 0, 2, 3, false) -> 1; orderOf(0, 0) -> 6; orderOf(0, 1) -> 5
                orderOf(0, 2) -> 4; orderOf(0, 3) -> 3; orderOf(0, 4) -> 0; orderOf(0, 5) -> 1; orderOf(1, 0) -> 0
                orderOf(1, 1) -> 1
                orderOf(1, 2) -> 0; orderOf(1, 3) -> 2; orderOf(1, 4) -> 3; orderOf(1, 5) -> 0
                """);
        test(18, "6 for the sets that were sold for it", STORED + """
                order(0, 1, 0, 0, 3, false) -> 0; order(0, 1, 0, 0, 3, false) -> 1; orderOf(1, 6) -> 0; sell(1) -> 1
                orderOf(0, 6) -> 0; orderOf(1, 6) -> 1; sell(1) -> 2; orderOf(1, 6) -> 2
                sell(1) -> throws UnsupportedOperationException
                orderOf(1, 6) -> 2; undo() -> 7; orderOf(1, 6) -> 1
                """);
        test(18, "Throws `IndexOutOfBoundsException` if there is no such order", """
                orderOf(0, 0) -> throws IndexOutOfBoundsException; 6 x order(1, 0, 0, 0, 2, true) -> 5; orderOf(5, 4) -> 2
                orderOf(6, 4) -> throws IndexOutOfBoundsException; orderOf(-1, 0) -> throws IndexOutOfBoundsException
                orderOf(-2147483648, 0) -> throws IndexOutOfBoundsException
                orderOf(2147483647, 0) -> throws IndexOutOfBoundsException
                """);
        test(18, "Throws `IllegalArgumentException` if what is not from 0 to 6", """
                order(1, 0, 0, 0, 2, true) -> 0; orderOf(0, -1) -> throws IllegalArgumentException
                orderOf(0, 7) -> throws IllegalArgumentException
                orderOf(0, -2147483648) -> throws IllegalArgumentException
                orderOf(0, 2147483647) -> throws IllegalArgumentException; orderOf(0, 0) -> 1; orderOf(0, 6) -> 0
                """);
    }

    private static void sign() {
        untested(19, "Returns the sign of a ware.");
        test(19, "Returns \"g\" green, \"s\" in a saggar, \"f\" fired and in a saggar, \"i\" in the store, \"o\" sold, \"x\" broken.",
                STORED + """
                sign(0) -> i; sign(2) -> i; sign(3) -> g; put(3, 0) -> 5; sign(3) -> s; fire(1000) -> 0; sign(3) -> f
                empty(0) -> 0
                sign(3) -> x; order(0, 1, 0, 0, 3, false) -> 0; sell(0) -> 1; sign(0) -> o; sign(1) -> i; sign(4) -> g
                """);
        test(19, "Throws `IndexOutOfBoundsException` if there is no such ware", """
                sign(0) -> throws IndexOutOfBoundsException; clay(60) -> 60; 3 x cast(1, 20, 50) -> 60; sign(59) -> g
                sign(60) -> throws IndexOutOfBoundsException; sign(-1) -> throws IndexOutOfBoundsException
                sign(-2147483648) -> throws IndexOutOfBoundsException
                sign(2147483647) -> throws IndexOutOfBoundsException
                """);
    }

    private static void store() {
        untested(20, "Returns the number.");
        test(20, "Returns how many wares of a kind and a glaze are in the store.", STORED + """
                store(1, 3, false) -> 2; store(0, 3, false) -> 0; store(1, 2, false) -> 0; store(1, 0, false) -> 0
                store(3, 3, false) -> 0
                order(0, 1, 0, 0, 3, false) -> 0; sell(0) -> 1; store(1, 3, false) -> 1; glaze(3, 3, 1) -> 1236
                put(3, 0) -> 5
                fire(1250) -> 1; store(1, 3, false) -> 1; empty(0) -> 1; store(1, 3, false) -> 2
                """);
        test(20, "the glaze, or -1 for those without one", STORED + """
                store(1, -1, true) -> 1; store(1, -1, false) -> 0; store(1, 0, true) -> 0; store(0, -1, true) -> 0
                """);
        test(20, "true for seconds, false for firsts", STORED + """
                glaze(3, 3, 1) -> 1236; put(3, 0) -> 5; fire(1276) -> 0; glaze(4, 3, 1) -> 1236; put(4, 0) -> 4
                fire(1000) -> 0
                empty(0) -> 1; store(1, 3, true) -> 1; store(1, 3, false) -> 2
                """);
        test(20, "Throws `IllegalArgumentException` if a number is out of range", """
                store(-1, 0, true) -> throws IllegalArgumentException
                store(4, 0, true) -> throws IllegalArgumentException
                store(0, -2, true) -> throws IllegalArgumentException
                store(0, 4, true) -> throws IllegalArgumentException
                store(-2147483648, 0, true) -> throws IllegalArgumentException
                store(2147483647, 0, true) -> throws IllegalArgumentException
                store(0, -2147483648, true) -> throws IllegalArgumentException
                store(0, 2147483647, true) -> throws IllegalArgumentException
                store(0, -1, true) -> 0; store(3, 3, false) -> 0
                """);
    }

    private static void heatAt() {
        untested(21, "Returns the heat at a saggar in a firing.");
        test(21, "Returns the heat there.", """
                3 x saggar() -> 2; stack(0, -1, 0) -> 0; heatAt(0, 1000) -> 1000; heatAt(0, 1400) -> 1400
                stack(1, 0, 3) -> 1
                heatAt(1, 1000) -> 990; stack(2, -1, 3) -> 0; heatAt(2, 1000) -> 985; unstack(1) -> 1; stack(1, 2, 0) -> 1
                heatAt(1, 1400) -> 1375
                """);
        test(21, "Throws `IndexOutOfBoundsException` if there is no such saggar", """
                heatAt(0, 1200) -> throws IndexOutOfBoundsException; 8 x saggar() -> 7; stack(7, -1, 0) -> 0
                heatAt(8, 1200) -> throws IndexOutOfBoundsException; heatAt(-1, 1200) -> throws IndexOutOfBoundsException
                heatAt(-2147483648, 1200) -> throws IndexOutOfBoundsException
                heatAt(2147483647, 1200) -> throws IndexOutOfBoundsException
                heatAt(7, 1200) -> 1200
                """);
        test(21, "Throws `IllegalArgumentException` if the heat is out of range", """
                saggar() -> 0; stack(0, -1, 0) -> 0; heatAt(0, 999) -> throws IllegalArgumentException
                heatAt(0, 1401) -> throws IllegalArgumentException
                heatAt(0, -2147483648) -> throws IllegalArgumentException
                heatAt(0, 2147483647) -> throws IllegalArgumentException; heatAt(0, 1000) -> 1000; heatAt(0, 1400) -> 1400
                """);
        test(21, "Throws `NoSuchElementException` if the saggar is on the floor", """
                saggar() -> 0; heatAt(0, 1200) -> throws NoSuchElementException; stack(0, -1, 0) -> 0
                heatAt(0, 1200) -> 1200
                unstack(0) -> 0; heatAt(0, 1200) -> throws NoSuchElementException; undo() -> 2; heatAt(0, 1200) -> 1200
                refusal(0, false) -> throws NoSuchElementException
                """);
    }

    private static void wouldBe() {
        test(22, "Returns what a ware would be if it was fired now with a heat at its saggar, whatever its state is.",
                STORED + """
                order(0, 1, 0, 0, 3, false) -> 0; sell(0) -> 1; put(3, 0) -> 5; fire(1000) -> 0; empty(0) -> 0
                put(4, 0) -> 5
                ware(0, 2) -> 4; wouldBe(0, 1275) -> 1; wouldBe(0, 1276) -> 2; ware(3, 2) -> 5; wouldBe(3, 1235) -> 2
                ware(4, 2) -> 1
                wouldBe(4, 1235) -> 2; wouldBe(4, 1234) -> 3; ware(1, 2) -> 3; wouldBe(1, 1234) -> 3; set(0, 0) -> 3
                wouldBe(1, 1275) -> 3
                unstack(0) -> 0; wouldBe(4, 1235) -> 2; ware(1, 6) -> 1
                """);
        test(22, "the heat there, 0 to 2000", SAUCERS + """
                wouldBe(0, -1) -> throws IllegalArgumentException; wouldBe(0, 2001) -> throws IllegalArgumentException
                wouldBe(0, 0) -> 3; wouldBe(0, 2000) -> 3; wouldBe(0, 999) -> 3; wouldBe(0, 1401) -> 3
                """);
        test(22, "Returns 1 a first, 2 a second, 3 a waster.", SAUCERS + """
                wouldBe(0, 1234) -> 3; wouldBe(0, 1235) -> 1; wouldBe(0, 1275) -> 1; wouldBe(0, 1276) -> 2
                wouldBe(0, 1305) -> 2
                wouldBe(0, 1306) -> 3; wouldBe(2, 1235) -> 2; wouldBe(2, 1315) -> 2; wouldBe(2, 1316) -> 3
                """);
        test(22, "Throws `IndexOutOfBoundsException` if there is no such ware", """
                wouldBe(0, 1200) -> throws IndexOutOfBoundsException; clay(60) -> 60; 3 x cast(1, 20, 50) -> 60
                wouldBe(59, 1235) -> 2
                wouldBe(60, 1235) -> throws IndexOutOfBoundsException
                wouldBe(-1, 1235) -> throws IndexOutOfBoundsException
                wouldBe(-2147483648, 0) -> throws IndexOutOfBoundsException
                wouldBe(2147483647, 0) -> throws IndexOutOfBoundsException
                """);
        test(22, "Throws `IllegalArgumentException` if the heat is out of range", SAUCERS + """
                wouldBe(0, -1) -> throws IllegalArgumentException; wouldBe(0, 2001) -> throws IllegalArgumentException
                wouldBe(0, -2147483648) -> throws IllegalArgumentException
                wouldBe(0, 2147483647) -> throws IllegalArgumentException
                """);
    }

    private static void bestHeat() {
        untested(23, "Returns the number.");
        test(23, "of those that are divisible by 10, by which most wares would become firsts, or how many these are",
                SAUCERS + """
                saggar() -> 1; stack(1, -1, 1) -> 0; put(0, 0) -> 5; put(1, 1) -> 5; bestHeat(true) -> 2
                bestHeat(false) -> 1240
                set(0, 0) -> 3; bestHeat(true) -> 2; bestHeat(false) -> 1240; set(1, 10) -> 40; unstack(1) -> 0
                stack(1, 0, 0) -> 1
                glaze(2, 0, 1) -> 1176; bestHeat(true) -> 1; bestHeat(false) -> 1240; fire(1250) -> 1
                """);
        test(23, "of several the lowest one", SAUCERS + """
                put(2, 0) -> 5; bestHeat(false) -> 1000; bestHeat(true) -> 0; put(0, 0) -> 4; bestHeat(false) -> 1240
                saggar() -> 1
                stack(1, 0, 0) -> 1; put(1, 1) -> 5; set(0, 0) -> 3; bestHeat(true) -> 1; bestHeat(false) -> 1240
                """);
        test(23, "Throws `NoSuchElementException` if there is nothing to fire", """
                bestHeat(true) -> throws NoSuchElementException; saggar() -> 0; stack(0, -1, 0) -> 0; saggar() -> 1
                clay(9) -> 9
                cast(1, 2, 50) -> 2; bestHeat(true) -> throws NoSuchElementException; put(0, 1) -> 5
                bestHeat(false) -> throws NoSuchElementException; put(1, 0) -> 5; bestHeat(true) -> 0; fire(1250) -> 0
                bestHeat(false) -> throws NoSuchElementException; refusal(0, false) -> throws NoSuchElementException
                account(18) -> 8
                """);
    }

    /** All 60 wares there can be in the store, all firsts of one kind and glaze, and an order for one at a time. */
    private static String fullStore() {
        StringBuilder calls = new StringBuilder("""
                clay(99) -> 99; 3 x cast(1, 20, 50) -> 60; 4 x saggar() -> 3; stack(0, -1, 0) -> 0; stack(1, -1, 1) -> 0
                stack(2, -1, 2) -> 0; stack(3, -1, 3) -> 0; order(0, 1, 0, 0, 3, false) -> 0; order(0, 6, 0, 0, 3, true) -> 1
                """);
        for (int ware = 0; ware < 60; ware++) {
            int saggar = ware / 6 % 4;
            calls.append("glaze(").append(ware).append(", 3, 1) -> 1236\n");
            calls.append("put(").append(ware).append(", ").append(saggar).append(") -> ").append(5 - ware % 6).append('\n');
            if (ware % 6 == 5) {
                calls.append("fire(1260) -> 6; empty(").append(saggar).append(") -> 6\n");
            }
        }
        return calls.toString();
    }

    private static void sets() {
        untested(24, "Returns how many.");
        test(24, "could be sold for an order now", fullStore() + """
                account(4) -> 60; sets(0) -> 60; sets(1) -> 10; sell(1) -> 1; sets(0) -> 54; sets(1) -> 9; 54 x sell(0) -> 54
                sets(0) -> 0; sets(1) -> 0; account(10) -> 55; account(5) -> 60; isBalanced() -> true
                """);
        test(24, "Returns how many sets could be sold for an order now, one after the other.", STORED + """
                order(0, 1, 0, 0, 3, false) -> 0; order(0, 2, 0, 0, 3, false) -> 1; order(0, 3, 0, 0, 3, true) -> 2
                order(0, 1, 1, 0, 3, true) -> 3; sets(0) -> 2; sets(1) -> 1; sets(2) -> 0; sets(3) -> 0; account(5) -> 0
                account(4) -> 3
                account(10) -> 0; account(18) -> 8; refusal(0, false) -> throws NoSuchElementException; sell(0) -> 1
                sets(0) -> 1
                sets(1) -> 0; sell(0) -> 2; sets(0) -> 0; undo() -> 7; sets(0) -> 1
                """);
        test(24, "Throws `IndexOutOfBoundsException` if there is no such order", """
                sets(0) -> throws IndexOutOfBoundsException; 6 x order(1, 0, 0, 0, 0, true) -> 5
                sets(6) -> throws IndexOutOfBoundsException
                sets(-1) -> throws IndexOutOfBoundsException; sets(-2147483648) -> throws IndexOutOfBoundsException
                sets(2147483647) -> throws IndexOutOfBoundsException; sets(5) -> 0
                """);
    }

    private static void setsAgain() {
        untested(25, "Returns how many.");
        test(25, "could be sold for an order now", fullStore() + """
                store(1, 3, false) -> 60; setsAgain(0) -> 60; setsAgain(1) -> 10; sell(0) -> 1; setsAgain(0) -> 59
                setsAgain(1) -> 9; 9 x sell(1) -> 9; setsAgain(0) -> 5; setsAgain(1) -> 0; 5 x sell(0) -> 6; setsAgain(0) -> 0
                """);
        test(25, "Returns how many sets could be sold for an order now, found in another way: for each kind, by how many wares of the store there are.",
                STORED + """
                order(0, 1, 0, 0, 3, false) -> 0; order(0, 2, 0, 0, 3, false) -> 1; order(0, 3, 0, 0, 3, true) -> 2
                order(0, 1, 1, 0, 3, true) -> 3; order(0, 0, 0, 1, 3, true) -> 4; setsAgain(0) -> 2; setsAgain(1) -> 1
                setsAgain(2) -> 0
                setsAgain(3) -> 0; setsAgain(4) -> 0; refusal(0, false) -> throws NoSuchElementException; sell(0) -> 1
                setsAgain(0) -> 1; setsAgain(1) -> 0; sell(0) -> 2; setsAgain(0) -> 0
                """);
        test(25, "Throws `IndexOutOfBoundsException` if there is no such order", """
                setsAgain(0) -> throws IndexOutOfBoundsException; 6 x order(1, 0, 0, 0, 0, true) -> 5
                setsAgain(6) -> throws IndexOutOfBoundsException; setsAgain(-1) -> throws IndexOutOfBoundsException
                setsAgain(-2147483648) -> throws IndexOutOfBoundsException
                setsAgain(2147483647) -> throws IndexOutOfBoundsException
                setsAgain(5) -> 0
                """);
    }

    private static void append() {
        test(26, "Appends a character to the text buffer.", """
                append(0) -> 1; append(255) -> 2; append(256) -> 3; append(65535) -> 4; account(17) -> 4; account(18) -> 0
                read() -> throws IllegalArgumentException; faultPosition() -> 0; clay(9) -> 9; append(116) -> 1
                append(49) -> 2
                append(42) -> 3; append(51) -> 4; read() -> 1; account(0) -> 3
                """);
        test(26, "Returns the characters in the buffer then.", """
                append(120) -> 1; 58 x append(120) -> 59; append(120) -> 60; read() -> throws IllegalArgumentException
                append(120) -> 1
                """);
        test(26, "Throws `IllegalStateException` if the buffer contains 60 characters", """
                clay(9) -> 9; saggar() -> 0; cast(1, 1, 50) -> 1
                "p0@0;e0;p0@0;e0;p0@0;e0;p0@0;e0;p0@0;e0;p0@0;e0;e0;p00@0;p0" -> 59
                append(64) -> 60; append(48) -> throws IllegalStateException; append(0) -> throws IllegalStateException
                account(17) -> 60
                read() -> throws IllegalArgumentException; faultPosition() -> 60; account(17) -> 0; append(48) -> 1
                """);
    }

    private static void read() {
        test(27, "Does the text in the buffer, which is empty afterwards, also if an exception is thrown.", """
                clay(9) -> 9; "t1*1" -> 4; read() -> 1; account(17) -> 0; account(0) -> 1; "t1*" -> 3
                read() -> throws IllegalArgumentException; account(17) -> 0; "e0" -> 2
                read() -> throws UnsupportedOperationException
                account(17) -> 0; "1" -> 1; read() -> throws IllegalArgumentException; faultPosition() -> 0; "t1*2" -> 4
                read() -> 1
                account(0) -> 3
                """);
        test(27, "Returns the number of steps.", """
                clay(60) -> 60; "t1*1" -> 4; read() -> 1; "t1*1;t1*1" -> 9; read() -> 2; 8 x saggar() -> 7
                "t1*1;t1*1;t1*1;t1*1;t1*1;t1*1;t1*1;t1*1;t1*1;t1*1;t1*1;t1*1" -> 59; read() -> 12; account(0) -> 15
                "p0@0;p1@1;p2@2;p3@3;p4@4;p5@5;p6@6;p7@7" -> 39; read() -> 8; "e0;e1;e2;e3;e4;e5;e6;e7" -> 23; read() -> 8
                """);
        test(27, "Throws `IllegalArgumentException` if the text has a fault", """
                clay(9) -> 9; read() -> throws IllegalArgumentException; "t1*1;t1*1;" -> 10
                read() -> throws IllegalArgumentException
                account(0) -> 0; account(13) -> 9; account(18) -> 1; "e0;x" -> 4
                read() -> throws IllegalArgumentException
                refusal(0, false) -> throws NoSuchElementException; ";" -> 1; read() -> throws IllegalArgumentException
                """);
        test(27, "Throws `UnsupportedOperationException` if it is refused for reason 11; the reason is kept for refusal",
                """
                clay(9) -> 9; "t1*5;t1*5" -> 9; read() -> throws UnsupportedOperationException; refusal(0, false) -> 11
                refusal(0, true) -> 1
                refusal(1, false) -> 2; refusal(1, true) -> 4; account(0) -> 0; account(13) -> 9; account(18) -> 1
                "t1*5;t1*4" -> 9
                read() -> 2; refusal(0, false) -> 11; account(13) -> 0
                """);
    }

    private static void faultPosition() {
        test(28, "Returns the fault position of the text of the latest call of read.", """
                "t1*;" -> 4; read() -> throws IllegalArgumentException; faultPosition() -> 3; "xyz" -> 3
                faultPosition() -> 3
                read() -> throws IllegalArgumentException; faultPosition() -> 0; read() -> throws IllegalArgumentException
                faultPosition() -> 0; "f1250;f" -> 7; read() -> throws IllegalArgumentException; faultPosition() -> 7
                """);
        test(28, "Returns the fault position, or -1 if that text had no fault or read has not been called.", """
                faultPosition() -> -1; "x" -> 1; faultPosition() -> -1; read() -> throws IllegalArgumentException
                faultPosition() -> 0
                clay(1) -> 1; "t1*1" -> 4; read() -> 1; faultPosition() -> -1; "x" -> 1
                read() -> throws IllegalArgumentException
                "t1*1" -> 4; read() -> throws UnsupportedOperationException; faultPosition() -> -1
                """);
    }

    private static void refusal() {
        untested(29, "Returns the number.");
        test(29, "Returns the reason of the latest refusal, one that stands behind it, or a detail.", """
                order(0, 0, 0, 1, 0, true) -> 0; "s0" -> 2; read() -> throws UnsupportedOperationException
                refusal(2, false) -> 12
                fire(1000) -> throws UnsupportedOperationException; refusal(0, false) -> 9
                refusal(1, false) -> throws NoSuchElementException
                sell(0) -> throws UnsupportedOperationException; refusal(0, false) -> 10; refusal(1, false) -> 12
                refusal(2, false) -> throws NoSuchElementException; clay(0) -> throws IllegalArgumentException
                unstack(0) -> throws IndexOutOfBoundsException; clay(1) -> 1; refusal(0, false) -> 10
                refusal(1, true) -> 3
                """);
        test(29, "0 for the reason, 1 for the one behind it, 2 for the one behind that", """
                5 x order(1, 0, 0, 0, 0, true) -> 4; order(0, 0, 1, 0, 0, true) -> 5; clay(9) -> 9; "t1*1;t1*1;s5" -> 12
                read() -> throws UnsupportedOperationException; refusal(0, false) -> 11; refusal(1, false) -> 10
                refusal(2, false) -> 12
                """);
        test(29, "true for the detail, false for the reason", """
                5 x order(1, 0, 0, 0, 0, true) -> 4; order(0, 0, 1, 0, 0, true) -> 5; clay(9) -> 9
                "t1*1;t1*1;t1*1;s5" -> 17
                read() -> throws UnsupportedOperationException; refusal(0, true) -> 3; refusal(1, true) -> 5
                refusal(2, true) -> 2
                refusal(0, false) -> 11; refusal(1, false) -> 10; refusal(2, false) -> 12
                """);
        test(29, "Throws `IllegalArgumentException` if depth is not from 0 to 2", """
                refusal(-1, false) -> throws IllegalArgumentException
                refusal(3, false) -> throws IllegalArgumentException
                refusal(-1, true) -> throws IllegalArgumentException; refusal(3, true) -> throws IllegalArgumentException
                refusal(-2147483648, true) -> throws IllegalArgumentException
                refusal(2147483647, true) -> throws IllegalArgumentException
                order(1, 0, 0, 0, 0, true) -> 0; "s0" -> 2; read() -> throws UnsupportedOperationException
                refusal(3, false) -> throws IllegalArgumentException
                refusal(-1, false) -> throws IllegalArgumentException; refusal(2, true) -> 0
                """);
        test(29, "Throws `NoSuchElementException` if nothing was refused, or there is no such reason behind it", """
                refusal(0, false) -> throws NoSuchElementException; refusal(0, true) -> throws NoSuchElementException
                refusal(1, false) -> throws NoSuchElementException; refusal(2, true) -> throws NoSuchElementException
                clay(0) -> throws IllegalArgumentException; refusal(0, false) -> throws NoSuchElementException
                fire(1000) -> throws UnsupportedOperationException; refusal(0, false) -> 9
                refusal(1, false) -> throws NoSuchElementException
                refusal(1, true) -> throws NoSuchElementException; refusal(2, false) -> throws NoSuchElementException
                "e0" -> 2
                read() -> throws UnsupportedOperationException; refusal(1, false) -> 13
                refusal(2, false) -> throws NoSuchElementException
                """);
    }

    private static void account() {
        untested(30, "Returns an account.", "Returns the account.");
        test(30, "0 for the wares, 1 to 6 for those of the states 0 to 5", STORED + """
                cast(1, 10, 50) -> 15; order(0, 1, 0, 0, 3, false) -> 0; sell(0) -> 1; put(3, 0) -> 5; put(4, 0) -> 4
                put(5, 0) -> 3
                fire(1000) -> 0; empty(0) -> 0; put(6, 0) -> 5; put(7, 0) -> 4; put(8, 0) -> 3; put(9, 0) -> 2
                fire(1000) -> 0
                saggar() -> 1; put(10, 1) -> 5; account(0) -> 15; account(1) -> 4; account(2) -> 1; account(3) -> 4
                account(4) -> 2
                account(5) -> 1; account(6) -> 3
                """);
        test(30, "7 for the saggars, 8 for those in the kiln, 9 for the orders, 10 for the sets that were sold, 11 for the firings so far",
                STORED + """
                3 x saggar() -> 3; stack(1, 0, 0) -> 1; 3 x order(0, 1, 0, 0, 3, false) -> 2; sell(0) -> 1; sell(2) -> 1
                sell(2) -> throws UnsupportedOperationException; account(7) -> 4; account(8) -> 2; account(9) -> 3
                account(10) -> 2
                account(11) -> 1; unstack(1) -> 1; account(8) -> 1; fire(1000) -> throws UnsupportedOperationException
                account(11) -> 1
                put(3, 0) -> 5; fire(1000) -> 0; account(11) -> 2
                """);
        test(30, "12 for the clay that was bought so far, 13 for the stock of clay, 14 to 16 for the settings 0 to 2", """
                10 x clay(99) -> 990; cast(3, 20, 50) -> 20; clay(80) -> 990; clay(9) -> 999
                clay(1) -> throws UnsupportedOperationException
                account(12) -> 1079; account(13) -> 999; set(0, 1) -> 3; set(1, 11) -> 40; set(2, 21) -> 16
                account(14) -> 1
                account(15) -> 11; account(16) -> 21
                """);
        test(30, "17 for the characters in the text buffer, 18 for the changes that can be undone", """
                account(17) -> 0; account(18) -> 0; 60 x append(120) -> 60; account(17) -> 60; account(18) -> 0
                8 x clay(1) -> 8
                account(18) -> 8; clay(1) -> 9; account(18) -> 8; undo() -> 7; account(18) -> 7; account(17) -> 60
                """);
        test(30, "Throws `IllegalArgumentException` if what is not from 0 to 18", """
                account(-1) -> throws IllegalArgumentException; account(19) -> throws IllegalArgumentException
                account(-2147483648) -> throws IllegalArgumentException
                account(2147483647) -> throws IllegalArgumentException
                account(0) -> 0; account(18) -> 0
                """);
    }

    private static void isBalanced() {
        untested(31, "Returns whether this is so.");
        test(31, "the clay that was bought is in the stock or in wares of all states, the wares that were sold are those of the sets, and each load is found alike by both ways",
                """
                isBalanced() -> true
                """ + STORED + """
                isBalanced() -> true; order(0, 1, 0, 0, 3, false) -> 0; sell(0) -> 1; isBalanced() -> true; saggar() -> 1
                stack(1, 0, 0) -> 1; put(3, 1) -> 5; isBalanced() -> true; fire(1000) -> 0; empty(1) -> 0
                isBalanced() -> true
                sell(0) -> 2; sell(0) -> throws UnsupportedOperationException; isBalanced() -> true; cast(3, 10, 50) -> 15
                isBalanced() -> true; cast(3, 20, 50) -> throws UnsupportedOperationException; isBalanced() -> true
                8 x undo() -> 0
                isBalanced() -> true; save() -> 5; sell(0) -> 1; restore() -> 5; isBalanced() -> true
                """);
    }

    private static void firstShare() {
        test(32, "Returns the share of firsts in all wares that were fired so far.", STORED + """
                firstShare() -> 0.6666666666666666; order(0, 1, 0, 0, 3, false) -> 0; sell(0) -> 1
                firstShare() -> 0.6666666666666666
                put(3, 0) -> 5; firstShare() -> 0.6666666666666666; fire(1000) -> 0; firstShare() -> 0.5; empty(0) -> 0
                firstShare() -> 0.5; undo() -> 7; undo() -> 6; firstShare() -> 0.6666666666666666
                """);
        test(32, "Returns their number divided by that of all, both as doubles.", SAUCERS + """
                put(2, 0) -> 5; fire(1000) -> 0; firstShare() -> 0.0; put(0, 0) -> 4; fire(1250) -> 1; firstShare() -> 0.5
                put(3, 0) -> 3; fire(1250) -> 0; firstShare() -> 0.3333333333333333; put(1, 0) -> 2; fire(1250) -> 1
                firstShare() -> 0.5
                put(4, 0) -> 1; fire(1250) -> 0; firstShare() -> 0.4
                """);
        test(32, "Throws `ArithmeticException` if none was fired", """
                firstShare() -> throws ArithmeticException; clay(9) -> 9; cast(1, 1, 50) -> 1
                firstShare() -> throws ArithmeticException
                saggar() -> 0; stack(0, -1, 0) -> 0; put(0, 0) -> 5; firstShare() -> throws ArithmeticException
                fire(1000) -> 0
                firstShare() -> 0.0; undo() -> 5; firstShare() -> throws ArithmeticException
                """);
    }

    private static void meanLoad() {
        untested(33, "Returns the mean load of the saggars in the kiln.");
        test(33, "Returns the sum of their loads divided by their number, both as floats.", BUNGS + """
                meanLoad() -> 4.5; stack(4, 3, 0) -> 1; meanLoad() -> 4.4; empty(2) -> 0; meanLoad() -> 2.8
                unstack(2) -> 2
                meanLoad() -> 2.0; unstack(1) -> 1; meanLoad() -> 1.3333334; unstack(4) -> 1; meanLoad() -> 0.0
                """);
        test(33, "Throws `ArithmeticException` if there are none", """
                meanLoad() -> throws ArithmeticException; 8 x saggar() -> 7; meanLoad() -> throws ArithmeticException
                stack(7, -1, 3) -> 0
                meanLoad() -> 0.0; unstack(7) -> 0; meanLoad() -> throws ArithmeticException
                """);
    }

    private static void undo() {
        test(34, "Undoes the latest change.", """
                clay(1) -> 1; clay(2) -> 3; set(0, 9) -> 3; undo() -> 2; account(14) -> 3; account(13) -> 3; undo() -> 1
                account(13) -> 1
                account(12) -> 1; clay(9) -> 10; undo() -> 1; account(13) -> 1; undo() -> 0; account(13) -> 0
                """);
        test(34, "Returns the number of changes that can still be undone.", """
                clay(1) -> 1; undo() -> 0; 8 x clay(1) -> 8; undo() -> 7; 4 x clay(1) -> 11; undo() -> 7; undo() -> 6
                6 x undo() -> 0
                account(13) -> 3
                """);
        test(34, "Throws `IllegalStateException` if no change can be undone", """
                undo() -> throws IllegalStateException; clay(0) -> throws IllegalArgumentException
                undo() -> throws IllegalStateException
                fire(1000) -> throws UnsupportedOperationException; undo() -> throws IllegalStateException
                append(120) -> 1; save() -> 0
                undo() -> throws IllegalStateException; 9 x clay(1) -> 9; 8 x undo() -> 0
                undo() -> throws IllegalStateException
                account(13) -> 1; clay(1) -> 2; restore() -> 0; undo() -> throws IllegalStateException; account(13) -> 0
                """);
    }

    private static void save() {
        test(35, "Takes a snapshot of what changes can change, in place of an earlier one.", """
                save() -> 0; clay(1) -> 1; save() -> 0; account(18) -> 1; clay(2) -> 3; restore() -> 0; account(13) -> 1
                clay(4) -> 5
                undo() -> 0; save() -> 0; clay(4) -> 5; 9 x undo() -> throws IllegalStateException; account(13) -> 1
                restore() -> 0
                account(13) -> 1
                """);
        test(35, "Returns the wares.", STORED + "save() -> 5; cast(1, 20, 50) -> 25; save() -> 25; undo() -> 7; save() -> 5");
    }

    private static void restore() {
        test(36, "Makes everything that changes can change as it is in the snapshot, which stays.", STORED + """
                order(0, 1, 0, 0, 3, false) -> 0; sell(0) -> 1; saggar() -> 1; stack(1, 0, 0) -> 1; put(3, 1) -> 5
                save() -> 5
                fire(1000) -> 0; empty(1) -> 0; unstack(1) -> 1; unstack(0) -> 0; sell(0) -> 2; set(0, 0) -> 3
                set(1, 10) -> 40
                set(2, 5) -> 16; clay(99) -> 193; cast(1, 1, 30) -> 6; glaze(4, 0, 1) -> 1176
                order(1, 0, 0, 0, 0, true) -> 1
                saggar() -> 2; restore() -> 5; account(0) -> 5; ware(3, 2) -> 1; ware(3, 5) -> 1; ware(3, 6) -> 0
                ware(4, 3) -> -1
                ware(4, 4) -> 0; ware(0, 2) -> 4; ware(1, 2) -> 3; orderOf(0, 6) -> 1; saggarOf(1, 1) -> 1
                saggarOf(1, 2) -> 0
                saggarOf(0, 1) -> 0; load(0) -> 4; account(7) -> 2; account(9) -> 1; account(10) -> 1; account(11) -> 1
                account(12) -> 99
                account(13) -> 94; account(14) -> 3; account(15) -> 40; account(16) -> 16; account(18) -> 0
                isBalanced() -> true
                clay(1) -> 95; sell(0) -> 2; restore() -> 5; account(13) -> 94; ware(1, 2) -> 3; fire(1000) -> 0
                restore() -> 5
                ware(3, 2) -> 1
                """);
        test(36, "Returns the wares.", """
                save() -> 0; clay(60) -> 60; 3 x cast(1, 20, 50) -> 60; restore() -> 0; clay(60) -> 60
                3 x cast(1, 20, 50) -> 60
                save() -> 60; undo() -> 3; restore() -> 60; ware(59, 0) -> 1
                """);
        test(36, "Throws `IllegalStateException` if there is no snapshot", """
                restore() -> throws IllegalStateException; clay(1) -> 1; restore() -> throws IllegalStateException
                account(13) -> 1
                account(18) -> 1; undo() -> 0; save() -> 0; restore() -> 0; restore() -> 0
                """);
    }
}
