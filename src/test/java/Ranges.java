import java.util.function.IntUnaryOperator;
import java.util.function.Supplier;

/** The range of a parameter: at its ends and one step inside a call is answered, outside it is refused. */
final class Ranges {
    interface On {
        int answer(GoldSheets x, int value);
    }

    private Ranges() {
    }

    static void hold(String what, int lowest, int highest, Class<? extends RuntimeException> beyond,
            Supplier<GoldSheets> maker, On call, IntUnaryOperator due) {
        for (int value : new int[] {lowest, lowest + 1, highest - 1, highest}) {
            Checks.due(what + " " + value, call.answer(maker.get(), value), due.applyAsInt(value));
        }
        for (int value : new int[] {lowest - 1, highest + 1, Integer.MIN_VALUE, Integer.MAX_VALUE}) {
            Twins.refuse(maker, beyond, what + " " + value, x -> call.answer(x, value));
        }
    }
}
