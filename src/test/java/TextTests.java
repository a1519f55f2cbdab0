/** Promises 10 to 14: append, clearBuffer, firstError, addAll, undo. */
final class TextTests {
    private static final Class<IllegalArgumentException> NO_ARGUMENT = IllegalArgumentException.class;
    private static final Class<IllegalStateException> NO_STATE = IllegalStateException.class;

    private TextTests() {
    }

    private static void firstError(String text, int want) {
        Checks.due("firstError() of " + text, Looks.withText(text).firstError(), want);
    }

    private static void isNotComplete(String text) {
        GoldSheets x = Looks.withText(text);
        Checks.refuses(x, NO_ARGUMENT, "addAll() of " + text, x::addAll);
    }

    static void promise10Append() {
        GoldSheets x = new GoldSheets();
        Checks.due("append(33)", x.append(33), 1);
        Checks.due("append(126)", x.append(126), 2);
        Checks.refuses(x, NO_ARGUMENT, "append(32)", () -> x.append(32));
        Checks.refuses(x, NO_ARGUMENT, "append(127)", () -> x.append(127));
        Checks.refuses(x, NO_ARGUMENT, "append(-1)", () -> x.append(-1));
        for (int length = 3; length <= 60; length++) {
            Checks.due("append(49)", x.append(49), length);
        }
        Checks.refuses(x, NO_STATE, "append(49) to a full buffer", () -> x.append(49));
        Checks.refuses(x, NO_ARGUMENT, "append(127) to a full buffer", () -> x.append(127));
        Checks.due("count(9)", x.count(9), 0);
    }

    static void promise10EachCodeIsKept() {
        GoldSheets x = Looks.withText("9a");
        GoldSheets y = Looks.withText("9b");
        Checks.holds("digests differ", x.digest() != y.digest());
    }

    static void promise11ClearBuffer() {
        GoldSheets x = Looks.withText("12a@3");
        Checks.due("clearBuffer()", x.clearBuffer(), 5);
        Checks.due("clearBuffer() again", x.clearBuffer(), 0);
        Checks.due("firstError()", x.firstError(), 0);
        Checks.due("count(9)", x.count(9), 0);
        Checks.due("append(49)", x.append(49), 1);
        Checks.holds("the digest is that of the new text", x.digest() == Looks.withText("1").digest());
    }

    static void promise12FirstErrorInCubes() {
        firstError("", 0);
        firstError("0", 0);
        firstError("a", 0);
        firstError(";", 0);
        firstError("-5a@1", 0);
        firstError("1", 1);
        firstError("500", 3);
        firstError("501", 2);
        firstError("499a@1", 6);
        firstError("600a@1", 2);
        firstError("5000", 3);
        firstError("100a", 4);
        firstError("10/a", 2);
        firstError("10:a", 2);
    }

    static void promise12FirstErrorInToneAndAt() {
        firstError("9a", 2);
        firstError("9d", 2);
        firstError("9e", 1);
        firstError("9`", 1);
        firstError("9A", 1);
        firstError("9@", 1);
        firstError("9ab", 2);
        firstError("9a1", 2);
        firstError("9a@@", 3);
        firstError("9a@;", 3);
    }

    static void promise12FirstErrorInDays() {
        firstError("9a@0", 4);
        firstError("9a@00", 4);
        firstError("9a@01", 4);
        firstError("9a@999", 6);
        firstError("9a@1000", 6);
        firstError("9a@5a", 4);
        firstError("9a@5;", 5);
        firstError("9a@5;;", 5);
        firstError("9a@5;0", 5);
        firstError("9a@5;500d@0;", 12);
        firstError("9a@5;500d@0;501", 14);
        firstError("9a@5!x", 4);
    }

    static void promise12TextsOfAnyLength() {
        String five = "1a@0;";
        firstError(five.repeat(12), 60);
        firstError("100a@100;100a@100;100a@100;100a@100;100a@100;100a@100;100a@1", 60);
        firstError("100a@100;100a@100;100a@100;100a@100;100a@100;100a@100;100a@x", 59);
    }

    static void promise13AddAll() {
        GoldSheets x = new GoldSheets();
        x.section(1, 5, 5);
        Looks.type(x, "500d@999;1a@0;20b@5");
        Checks.due("addAll()", x.addAll(), 4);
        Checks.holds("sections", Looks.sectionsOf(x)
                .equals("2,0,1,0,0,0 0,1,5,5,0,0 3,1,20,5,0,0 1,3,500,999,0,0"));
        Checks.due("clearBuffer()", x.clearBuffer(), 0);
        Checks.due("count(9)", x.count(9), 2);
        Checks.due("undo()", x.undo(), 1);
        Checks.due("count(1)", x.count(1), 1);
        Checks.due("the buffer is not restored", x.clearBuffer(), 0);
        Checks.due("the next number", x.section(0, 1, 1), 1);
    }

    static void promise13TheTextIsReadAnew() {
        GoldSheets x = Looks.withText("1a@0;2b@0");
        x.firstError();
        Looks.type(x, ";3c@0");
        x.firstError();
        Checks.due("addAll()", x.addAll(), 3);
        Looks.type(x, "4d@0");
        Checks.due("addAll() again", x.addAll(), 4);
        Checks.holds("sections", Looks.sectionsOf(x)
                .equals("0,0,1,0,0,0 1,1,2,0,0,0 2,2,3,0,0,0 3,3,4,0,0,0"));
    }

    static void promise13UpToTen() {
        GoldSheets x = new GoldSheets();
        Looks.type(x, "1a@0;1a@0;1a@0;1a@0;1a@0;1a@0;1a@0;1a@0;1a@0;1a@0");
        Checks.due("addAll()", x.addAll(), 10);
        Looks.type(x, "1a@0");
        Checks.refuses(x, NO_STATE, "addAll() of one more", x::addAll);
        Checks.due("the buffer is kept", x.clearBuffer(), 4);
        Looks.type(x, "1a@");
        Checks.refuses(x, NO_ARGUMENT, "addAll() of a bad one more", x::addAll);
        GoldSheets y = Looks.withText("1a@0;1a@0;1a@0;1a@0;1a@0;1a@0;1a@0;1a@0;1a@0;1a@0;1a@0;1a@0");
        Checks.refuses(y, NO_STATE, "addAll() of twelve", y::addAll);
        GoldSheets z = new GoldSheets();
        z.section(0, 1, 0);
        Looks.type(z, "1a@0;1a@0;1a@0;1a@0;1a@0;1a@0;1a@0;1a@0;1a@0;1a@0");
        Checks.refuses(z, NO_STATE, "addAll() of ten to one", z::addAll);
        Checks.due("none is added", z.count(1), 1);
    }

    static void promise13AddAllRefuses() {
        isNotComplete("");
        isNotComplete("1");
        isNotComplete("1a");
        isNotComplete("1a@");
        isNotComplete("1a@0;");
        isNotComplete("1a@0;1");
        isNotComplete("1a@0;1a@");
        isNotComplete("1a@00");
        isNotComplete("1a@5x");
        isNotComplete("501a@1");
        isNotComplete("x1a@1");
    }

    static void promise13AddAllInTheOrderByCubes() {
        GoldSheets x = new GoldSheets();
        x.set(2, 1);
        Looks.type(x, "30a@0;20b@5;30c@1");
        x.addAll();
        Checks.holds("order", Looks.orderOf(x).equals("1 0 2"));
    }

    static void promise14Undo() {
        GoldSheets x = new GoldSheets();
        String first = Looks.of(x);
        x.cut(0, 0);
        x.section(0, 20, 0);
        String second = Looks.of(x);
        x.pass(2);
        Checks.due("undo()", x.undo(), 2);
        Checks.holds("as before pass", Looks.of(x).equals(second));
        x.undo();
        Checks.due("undo()", x.undo(), 0);
        Checks.holds("as new", Looks.of(x).equals(first));
        Checks.refuses(x, NO_STATE, "undo()", x::undo);
    }

    static void promise14WhatIsCountedIsRestored() {
        GoldSheets x = new GoldSheets();
        x.section(2, 5, 0);
        x.pass(2);
        x.cut(2, 0);
        x.cut(1, 0);
        String before = Looks.of(x);
        x.pass(1);
        int[] then = {3, 0, 1, 1, 2, 0, 4, 0, 1, 5};
        for (int what = 0; what <= 9; what++) {
            Checks.due("count(" + what + ")", x.count(what), then[what]);
        }
        x.undo();
        Checks.due("count(2) behind undo", x.count(2), 0);
        Checks.due("count(3) behind undo", x.count(3), 0);
        Checks.due("count(4) behind undo", x.count(4), 0);
        Checks.due("count(8) behind undo", x.count(8), 0);
        Checks.holds("all is as before", Looks.of(x).equals(before));
    }

    static void promise14TheOldestIsDropped() {
        GoldSheets x = new GoldSheets();
        for (int time = 1; time <= 9; time++) {
            x.store(0, time);
            Checks.due("count(9)", x.count(9), Math.min(time, 6));
        }
        int[] sheets = {41, 33, 26, 20, 15, 11};
        for (int time = 0; time < 6; time++) {
            Checks.due("undo()", x.undo(), 5 - time);
            Checks.due("tone(0, 0)", x.tone(0, 0), sheets[time]);
        }
        Checks.refuses(x, NO_STATE, "undo()", x::undo);
        x.store(0, 1);
        Checks.due("undo() again", x.undo(), 0);
        Checks.due("tone(0, 0) again", x.tone(0, 0), 11);
    }

    static void promise14CallsThatThrowSaveNothing() {
        GoldSheets x = new GoldSheets();
        for (int time = 1; time <= 6; time++) {
            x.store(0, time);
        }
        Looks.type(x, "9");
        Checks.refuses(x, NO_ARGUMENT, "store(0, 0)", () -> x.store(0, 0));
        Checks.refuses(x, NO_ARGUMENT, "tip(0, 0)", () -> x.tip(0, 0));
        Checks.refuses(x, NO_ARGUMENT, "section(0, 0, 0)", () -> x.section(0, 0, 0));
        Checks.refuses(x, NO_ARGUMENT, "set(0, 0)", () -> x.set(0, 0));
        Checks.refuses(x, NO_ARGUMENT, "pass(0)", () -> x.pass(0));
        Checks.refuses(x, NO_ARGUMENT, "addAll()", x::addAll);
        Checks.refuses(x, IndexOutOfBoundsException.class, "cut(0, 6)", () -> x.cut(0, 6));
        Checks.refuses(x, IndexOutOfBoundsException.class, "sweep(6)", () -> x.sweep(6));
        Checks.refuses(x, IndexOutOfBoundsException.class, "drop(0)", () -> x.drop(0));
        for (int time = 6; time >= 1; time--) {
            x.undo();
            Checks.due("tone(0, 0)", x.tone(0, 0), 5 + time * (time - 1) / 2);
        }
    }

    static void promise14TheBufferIsNotRestored() {
        GoldSheets x = new GoldSheets();
        Looks.type(x, "12");
        x.store(0, 1);
        Looks.type(x, "3");
        x.undo();
        Checks.due("clearBuffer()", x.clearBuffer(), 3);
    }

    static void promise14EachUndoableCallSavesAlsoIfItChangesNothing() {
        GoldSheets x = new GoldSheets();
        x.sweep(0);
        x.tip(0, 1);
        x.set(0, 50);
        Checks.due("count(9)", x.count(9), 3);
        x.append(49);
        x.clearBuffer();
        x.firstError();
        x.ifPassed(9, 0);
        x.bestOrder(9);
        Checks.due("count(9) of others", x.count(9), 3);
    }
}
