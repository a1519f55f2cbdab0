import java.util.function.Supplier;
import java.util.function.ToLongFunction;

/** Objects that are made alike: one refuses a call, and then has to be as one that was never called. */
final class Twins {
    private Twins() {
    }

    static void refuse(Supplier<GoldSheets> maker, Class<? extends RuntimeException> want, String what,
            ToLongFunction<GoldSheets> call) {
        GoldSheets called = maker.get();
        String got = Checks.outcome(() -> call.applyAsLong(called));
        Checks.dueText(what, got, want.getSimpleName());
        Checks.dueText("the state behind " + what, stateOf(called), stateOf(maker.get()));
        GoldSheets again = maker.get();
        Checks.outcome(() -> call.applyAsLong(again));
        Checks.dueText("the next section behind " + what, nextNumber(again), nextNumber(maker.get()));
    }

    /** All that can be seen, also of the saved states and of the buffer; the object is used up by it. */
    static String stateOf(GoldSheets x) {
        StringBuilder text = new StringBuilder(Looks.of(x));
        while (x.count(9) > 0) {
            text.append(" | ").append(x.undo()).append(' ').append(x.digest());
        }
        return text.append(" | ").append(x.clearBuffer()).toString();
    }

    private static String nextNumber(GoldSheets x) {
        if (x.count(1) == 10) {
            x.drop(x.sectionOf(0, 0));
        }
        return Checks.outcome(() -> x.section(0, 1, 0));
    }
}
