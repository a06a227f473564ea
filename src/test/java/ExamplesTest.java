/** The examples of the document, word for word. */
public final class ExamplesTest {
    public static void main(String[] args) {
        Script script = new Script();
        script.run("Wares cast, glazed and fired", """
                clay(99) -> 99; cast(0, 2, 50) -> 2; cast(1, 2, 50) -> 4; glaze(0, 0, 2) -> 1172; glaze(2, 0, 2) -> 1172
                saggar() -> 0; stack(0, -1, 1) -> 0; put(0, 0) -> 4; put(2, 0) -> 3; order(1, 1, 0, 0, 0, false) -> 0
                bestHeat(false) -> 1000; fire(1260) -> 0; empty(0) -> 0; setsAgain(0) -> 0
                sell(0) -> throws UnsupportedOperationException
                isBalanced() -> true
                """);
        script.run("An order without wares, and saggars stood on one another", """
                order(0, 1, 0, 0, 2, true) -> 0; sell(0) -> throws UnsupportedOperationException
                refusal(0, false) -> 10; refusal(1, false) -> 12; refusal(1, true) -> 1; saggar() -> 0; saggar() -> 1
                stack(0, 1, 0) -> throws UnsupportedOperationException
                refusal(0, true) -> 1; stack(0, -1, 0) -> 0; stack(1, 0, 0) -> 1; load(0) -> 3
                unstack(0) -> throws UnsupportedOperationException
                refusal(0, true) -> 1; heatAt(1, 1200) -> 1190
                """);
        script.run("An empty kiln", """
                glaze(0, 0, 1) -> throws IndexOutOfBoundsException; set(3, 1) -> throws IllegalArgumentException
                fire(1200) -> throws UnsupportedOperationException; bestHeat(true) -> throws NoSuchElementException
                read() -> throws IllegalArgumentException
                faultPosition() -> 0; firstShare() -> throws ArithmeticException; undo() -> throws IllegalStateException
                restore() -> throws IllegalStateException
                """);
        script.end("examples");
    }
}
