import java.util.List;
import java.util.function.ToLongFunction;

/** The edges of promise 14: undo. */
final class UndoEdges {
    private static final Class<IllegalStateException> NO_STATE = IllegalStateException.class;

    private record Call(String what, ToLongFunction<GoldSheets> on) {
    }

    /** All undoable ones, each so that it changes something. */
    private static final List<Call> UNDOABLE = List.of(
            new Call("store(0, 1)", x -> x.store(0, 1)), new Call("cut(0, 0)", x -> x.cut(0, 0)),
            new Call("tip(0, 1)", x -> x.tip(0, 1)), new Call("sweep(0)", x -> x.sweep(0)),
            new Call("section(1, 9, 9)", x -> x.section(1, 9, 9)), new Call("drop(0)", x -> x.drop(0)),
            new Call("set(2, 1)", x -> x.set(2, 1)), new Call("pass(60)", x -> x.pass(60)),
            new Call("addAll()", GoldSheets::addAll));

    /** Undoable ones, each so that it changes nothing. */
    private static final List<Call> WITHOUT_CHANGE = List.of(
            new Call("tip(4, 5)", x -> x.tip(4, 5)), new Call("sweep(5)", x -> x.sweep(5)),
            new Call("set(0, 50)", x -> x.set(0, 50)), new Call("set(2, 0)", x -> x.set(2, 0)));

    /** All that save no state. */
    private static final List<Call> NOT_UNDOABLE = List.of(
            new Call("append(57)", x -> x.append(57)), new Call("clearBuffer()", GoldSheets::clearBuffer),
            new Call("firstError()", GoldSheets::firstError), new Call("tray(0, 0)", x -> x.tray(0, 0)),
            new Call("sectionOf(0, 0)", x -> x.sectionOf(0, 0)), new Call("tone(0, 0)", x -> x.tone(0, 0)),
            new Call("count(0)", x -> x.count(0)), new Call("setting(0)", x -> x.setting(0)),
            new Call("taken(9)", x -> x.taken(9)), new Call("missing(0)", x -> x.missing(0)),
            new Call("ifPassed(60, 0)", x -> x.ifPassed(60, 0)), new Call("doneIn(0)", x -> x.doneIn(0)),
            new Call("bestOrder(30)", x -> x.bestOrder(30)), new Call("laidShare()", x -> (long) x.laidShare()),
            new Call("digest()", GoldSheets::digest));

    private UndoEdges() {
    }

    /** Five saved states; cubes in a tray, a section in which some are laid, and a text. */
    private static GoldSheets withFiveStates() {
        GoldSheets x = new GoldSheets();
        x.section(0, 60, 3);
        x.section(2, 7, 5);
        x.cut(0, 0);
        x.pass(1);
        x.cut(1, 0);
        Looks.type(x, "5a@3");
        return x;
    }

    static void promise14EdgeOfNoSavedState() {
        Twins.refuse(GoldSheets::new, NO_STATE, "undo() of a new object", GoldSheets::undo);
        Twins.refuse(Made.text("5a@3"), NO_STATE, "undo() of a new object with a text", GoldSheets::undo);
        for (Call call : NOT_UNDOABLE) {
            if (!call.what().equals("doneIn(0)")) {
                GoldSheets x = new GoldSheets();
                call.on().applyAsLong(x);
                Checks.refuses(x, NO_STATE, "undo() behind " + call.what(), x::undo);
            }
        }
    }

    static void promise14EdgeOfTheSeventhSavedState() {
        for (int calls : new int[] {1, 2, 5, 6, 7, 8, 12, 13}) {
            GoldSheets x = new GoldSheets();
            for (int call = 0; call < calls; call++) {
                x.store(0, 1);
            }
            int saved = Math.min(6, calls);
            Checks.due("count(9) behind " + calls, x.count(9), saved);
            for (int left = saved - 1; left >= 0; left--) {
                Checks.due("undo() behind " + calls, x.undo(), left);
                Checks.due("tone(0, 0) behind " + calls, x.tone(0, 0), 5 + calls - saved + left);
                Checks.due("count(9) behind undo", x.count(9), left);
            }
            Checks.refuses(x, NO_STATE, "undo() of none behind " + calls, x::undo);
        }
    }

    static void promise14EdgeOf512Calls() {
        GoldSheets x = new GoldSheets();
        for (int call = 1; call <= 505; call++) {
            x.store(0, 1);
        }
        for (int left = 5; left >= 0; left--) {
            Checks.due("undo() behind 505 calls", x.undo(), left);
        }
        Checks.due("tone(0, 0) as the call 512", x.tone(0, 0), 504);
    }

    static void promise14EdgeOfUndoBetweenTheCalls() {
        GoldSheets x = new GoldSheets();
        for (int call = 0; call < 6; call++) {
            x.store(0, 1);
        }
        x.undo();
        x.undo();
        x.store(0, 10);
        x.store(0, 10);
        Checks.due("count(9) of six", x.count(9), 6);
        x.store(0, 10);
        int[] sheets = {29, 19, 9, 8, 7, 6};
        for (int index = 0; index < sheets.length; index++) {
            Checks.due("undo()", x.undo(), 5 - index);
            Checks.due("tone(0, 0)", x.tone(0, 0), sheets[index]);
        }
        Checks.refuses(x, NO_STATE, "undo()", x::undo);
    }

    static void promise14EdgeOfEachUndoableCall() {
        for (Call call : UNDOABLE) {
            GoldSheets x = withFiveStates();
            String before = Looks.of(x);
            call.on().applyAsLong(x);
            Checks.due("count(9) behind " + call.what(), x.count(9), 6);
            Checks.holds(call.what() + " changes something", !Looks.of(x).equals(before));
            Checks.due("undo() of " + call.what(), x.undo(), 5);
            if (call.what().equals("addAll()")) {
                Checks.due("the buffer behind undo", x.clearBuffer(), 0);
                Looks.type(x, "5a@3");
            }
            Checks.dueText("the state behind undo of " + call.what(), Looks.of(x), before);
            Checks.dueText("all states behind undo of " + call.what(), Twins.stateOf(x),
                    Twins.stateOf(withFiveStates()));
        }
    }

    static void promise14EdgeOfCallsThatChangeNothing() {
        for (Call call : WITHOUT_CHANGE) {
            GoldSheets x = withFiveStates();
            call.on().applyAsLong(x);
            Checks.due("count(9) behind " + call.what(), x.count(9), 6);
            Checks.due("undo() of " + call.what(), x.undo(), 5);
            Checks.dueText("all states behind " + call.what(), Twins.stateOf(x), Twins.stateOf(withFiveStates()));
        }
    }

    static void promise14EdgeOfCallsThatAreNotUndoable() {
        for (Call call : NOT_UNDOABLE) {
            GoldSheets x = withFiveStates();
            call.on().applyAsLong(x);
            x.clearBuffer();
            Looks.type(x, "5a@3");
            Checks.dueText("all states behind " + call.what(), Twins.stateOf(x), Twins.stateOf(withFiveStates()));
        }
    }

    static void promise14EdgeOfTheBuffer() {
        GoldSheets x = withFiveStates();
        x.clearBuffer();
        x.undo();
        Checks.due("clearBuffer() behind undo", x.clearBuffer(), 0);
        Looks.type(x, "7".repeat(60));
        x.undo();
        Checks.due("clearBuffer() of 60 behind undo", x.clearBuffer(), 60);
    }
}
