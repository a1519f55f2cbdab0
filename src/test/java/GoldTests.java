/** Promises 1 to 5: a new object, store, cut, tip, sweep. */
final class GoldTests {
    private static final Class<IndexOutOfBoundsException> NO_INDEX = IndexOutOfBoundsException.class;
    private static final Class<IllegalArgumentException> NO_ARGUMENT = IllegalArgumentException.class;
    private static final Class<IllegalStateException> NO_STATE = IllegalStateException.class;

    private GoldTests() {
    }

    static void promise01NewObject() {
        GoldSheets x = new GoldSheets();
        for (int what = 0; what <= 9; what++) {
            Checks.due("count(" + what + ")", x.count(what), what == 6 ? 6 : 0);
        }
        int[] settings = {50, 120, 0, 2, 30, 10};
        for (int setting = 0; setting < 6; setting++) {
            Checks.due("setting(" + setting + ")", x.setting(setting), settings[setting]);
        }
        for (int tray = 0; tray < 6; tray++) {
            Checks.holds("tray " + tray + " is empty", Looks.trayOf(x, tray).equals("0,0,0,0"));
        }
        for (int tone = 0; tone < 4; tone++) {
            Checks.holds("tone " + tone + " is new", Looks.toneOf(x, tone).equals("5,0,0,0,0,0,0"));
        }
        Checks.due("sectionOf(0, 0)", x.sectionOf(0, 0), -1);
        Checks.due("clearBuffer()", x.clearBuffer(), 0);
        Checks.refuses(x, NO_STATE, "undo()", x::undo);
        new GoldSheets().store(0, 9);
        Checks.due("tone(0, 0) of another object", x.tone(0, 0), 5);
    }

    static void promise02Store() {
        GoldSheets x = new GoldSheets();
        Checks.due("store(2, 1)", x.store(2, 1), 6);
        Checks.due("store(2, 99)", x.store(2, 99), 105);
        Checks.due("tone(2, 0)", x.tone(2, 0), 105);
        Checks.due("tone(1, 0)", x.tone(1, 0), 5);
        Checks.due("count(9)", x.count(9), 2);
        x.undo();
        Checks.due("tone(2, 0) behind undo", x.tone(2, 0), 6);
    }

    static void promise02StoreUpToTheLimit() {
        GoldSheets x = new GoldSheets();
        for (int time = 0; time < 10; time++) {
            x.store(3, 99);
        }
        Checks.refuses(x, NO_STATE, "store(3, 5)", () -> x.store(3, 5));
        Checks.due("store(3, 4)", x.store(3, 4), 999);
        Checks.refuses(x, NO_STATE, "store(3, 1)", () -> x.store(3, 1));
        Checks.refuses(x, NO_ARGUMENT, "store(3, 100)", () -> x.store(3, 100));
    }

    static void promise02StoreRefuses() {
        GoldSheets x = new GoldSheets();
        Checks.refuses(x, NO_INDEX, "store(-1, 1)", () -> x.store(-1, 1));
        Checks.refuses(x, NO_INDEX, "store(4, 0)", () -> x.store(4, 0));
        Checks.refuses(x, NO_ARGUMENT, "store(0, 0)", () -> x.store(0, 0));
        Checks.refuses(x, NO_ARGUMENT, "store(0, 100)", () -> x.store(0, 100));
        Checks.refuses(x, NO_ARGUMENT, "store(0, most)", () -> x.store(0, Integer.MAX_VALUE));
        Checks.refuses(x, NO_INDEX, "store(least, 1)", () -> x.store(Integer.MIN_VALUE, 1));
    }

    static void promise03Cut() {
        GoldSheets x = new GoldSheets();
        Checks.due("cut(1, 5)", x.cut(1, 5), 50);
        Checks.due("cut(2, 5)", x.cut(2, 5), 50);
        Checks.due("cut(1, 5)", x.cut(1, 5), 20);
        Checks.due("cut(0, 5)", x.cut(0, 5), 0);
        Checks.holds("tray 5", Looks.trayOf(x, 5).equals("0,70,50,0"));
        Checks.holds("tone 1", Looks.toneOf(x, 1).equals("3,70,0,100,0,30,0"));
        Checks.holds("tone 0", Looks.toneOf(x, 0).equals("4,0,0,50,0,50,0"));
        Checks.due("count(7)", x.count(7), 80);
        x.set(0, 7);
        Checks.due("cut(3, 0) of small sheets", x.cut(3, 0), 7);
        x.undo();
        Checks.due("tone(3, 0) behind undo", x.tone(3, 0), 5);
    }

    static void promise03CutIntoATrayThatHasTooMany() {
        GoldSheets x = new GoldSheets();
        x.cut(0, 2);
        x.set(1, 10);
        Checks.due("tray(2, 0)", x.tray(2, 0), 50);
        Checks.due("cut(0, 2)", x.cut(0, 2), 0);
        Checks.due("tray(2, 0) then", x.tray(2, 0), 50);
        Checks.due("tone(0, 5)", x.tone(0, 5), 50);
    }

    static void promise03CutRefuses() {
        GoldSheets x = new GoldSheets();
        Checks.refuses(x, NO_INDEX, "cut(4, 0)", () -> x.cut(4, 0));
        Checks.refuses(x, NO_INDEX, "cut(-1, 0)", () -> x.cut(-1, 0));
        Checks.refuses(x, NO_INDEX, "cut(0, 6)", () -> x.cut(0, 6));
        Checks.refuses(x, NO_INDEX, "cut(0, -1)", () -> x.cut(0, -1));
        for (int time = 0; time < 5; time++) {
            x.cut(0, time);
        }
        Checks.refuses(x, NO_STATE, "cut(0, 5)", () -> x.cut(0, 5));
        Checks.refuses(x, NO_INDEX, "cut(0, 6) without sheets", () -> x.cut(0, 6));
        Checks.due("cut(1, 5)", x.cut(1, 5), 50);
    }

    static void promise04Tip() {
        GoldSheets x = new GoldSheets();
        x.cut(3, 0);
        x.cut(1, 0);
        x.cut(2, 1);
        Checks.due("tip(0, 1)", x.tip(0, 1), 70);
        Checks.holds("lower tones first", Looks.trayOf(x, 1).equals("0,50,50,20"));
        Checks.holds("the others stay", Looks.trayOf(x, 0).equals("0,0,0,30"));
        Checks.due("count(7)", x.count(7), 0);
        Checks.due("tip(0, 1) into a full one", x.tip(0, 1), 0);
        Checks.due("tip(0, 5)", x.tip(0, 5), 30);
        Checks.due("tip(0, 5) of an empty one", x.tip(0, 5), 0);
        Checks.due("count(9)", x.count(9), 6);
        x.undo();
        x.undo();
        Checks.holds("behind undo", Looks.trayOf(x, 0).equals("0,0,0,30"));
    }

    static void promise04TipIntoATrayThatHasTooMany() {
        GoldSheets x = new GoldSheets();
        x.cut(0, 0);
        x.cut(1, 1);
        x.set(1, 20);
        Checks.due("tip(0, 1)", x.tip(0, 1), 0);
        Checks.due("tip(0, 2)", x.tip(0, 2), 20);
        Checks.holds("tray 0", Looks.trayOf(x, 0).equals("30,0,0,0"));
        Checks.holds("tray 1", Looks.trayOf(x, 1).equals("0,50,0,0"));
    }

    static void promise04TipRefuses() {
        GoldSheets x = new GoldSheets();
        Checks.refuses(x, NO_INDEX, "tip(6, 0)", () -> x.tip(6, 0));
        Checks.refuses(x, NO_INDEX, "tip(0, -1)", () -> x.tip(0, -1));
        Checks.refuses(x, NO_INDEX, "tip(6, 6)", () -> x.tip(6, 6));
        Checks.refuses(x, NO_ARGUMENT, "tip(5, 5)", () -> x.tip(5, 5));
    }

    static void promise05Sweep() {
        GoldSheets x = new GoldSheets();
        x.cut(0, 4);
        x.cut(3, 4);
        Checks.due("sweep(4)", x.sweep(4), 100);
        Checks.due("tray(4, NONE)", x.tray(4, -1), 0);
        Checks.due("tone(0, 5)", x.tone(0, 5), 50);
        Checks.due("tone(3, 5)", x.tone(3, 5), 50);
        Checks.due("tone(1, 5)", x.tone(1, 5), 0);
        Checks.due("tone(3, 3) is kept", x.tone(3, 3), 50);
        Checks.due("sweep(4) of an empty one", x.sweep(4), 0);
        Checks.due("undo()", x.undo(), 3);
        Checks.due("undo()", x.undo(), 2);
        Checks.holds("behind undo", Looks.trayOf(x, 4).equals("50,0,0,50"));
        Checks.due("count(7) behind undo", x.count(7), 0);
    }

    static void promise05SweepRefuses() {
        GoldSheets x = new GoldSheets();
        Checks.refuses(x, NO_INDEX, "sweep(-1)", () -> x.sweep(-1));
        Checks.refuses(x, NO_INDEX, "sweep(6)", () -> x.sweep(6));
    }
}
