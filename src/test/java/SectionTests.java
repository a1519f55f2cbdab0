/** Promises 6 to 9: section, drop, set, pass. */
final class SectionTests {
    private static final Class<IndexOutOfBoundsException> NO_INDEX = IndexOutOfBoundsException.class;
    private static final Class<IllegalArgumentException> NO_ARGUMENT = IllegalArgumentException.class;
    private static final Class<IllegalStateException> NO_STATE = IllegalStateException.class;

    private SectionTests() {
    }

    static void promise06Section() {
        GoldSheets x = new GoldSheets();
        Checks.due("section(0, 500, 999)", x.section(0, 500, 999), 0);
        Checks.due("section(3, 1, 0)", x.section(3, 1, 0), 1);
        Checks.due("section(2, 40, 999)", x.section(2, 40, 999), 2);
        Checks.holds("by day", Looks.sectionsOf(x).equals("1,3,1,0,0,0 0,0,500,999,0,0 2,2,40,999,0,0"));
        x.set(2, 1);
        Checks.holds("by cubes", Looks.orderOf(x).equals("1 2 0"));
        Checks.due("section(1, 40, 0)", x.section(1, 40, 0), 3);
        Checks.holds("alike by number", Looks.orderOf(x).equals("1 2 3 0"));
        x.set(2, 0);
        Checks.holds("by day again", Looks.orderOf(x).equals("1 3 0 2"));
    }

    static void promise06NumbersOfThoseThatAreGone() {
        GoldSheets x = new GoldSheets();
        x.section(0, 1, 1);
        x.drop(0);
        Checks.due("section behind drop", x.section(0, 1, 1), 1);
        x.undo();
        Checks.due("section behind undo", x.section(0, 1, 1), 1);
    }

    static void promise06SectionRefuses() {
        GoldSheets x = new GoldSheets();
        Checks.refuses(x, NO_INDEX, "section(4, 0, 0)", () -> x.section(4, 0, 0));
        Checks.refuses(x, NO_INDEX, "section(-1, 1, 0)", () -> x.section(-1, 1, 0));
        Checks.refuses(x, NO_ARGUMENT, "section(0, 0, 0)", () -> x.section(0, 0, 0));
        Checks.refuses(x, NO_ARGUMENT, "section(0, 501, 0)", () -> x.section(0, 501, 0));
        Checks.refuses(x, NO_ARGUMENT, "section(0, 1, -1)", () -> x.section(0, 1, -1));
        Checks.refuses(x, NO_ARGUMENT, "section(0, 1, 1000)", () -> x.section(0, 1, 1000));
        for (int number = 0; number < 10; number++) {
            Checks.due("section " + number, x.section(0, 1, 0), number);
        }
        Checks.refuses(x, NO_STATE, "the section 10", () -> x.section(0, 1, 0));
        Checks.refuses(x, NO_ARGUMENT, "section(0, 501, 0) of many", () -> x.section(0, 501, 0));
        x.drop(4);
        Checks.due("section behind drop", x.section(0, 1, 0), 10);
    }

    static void promise07Drop() {
        GoldSheets x = new GoldSheets();
        x.section(1, 100, 4);
        x.section(1, 100, 3);
        x.section(2, 100, 5);
        x.cut(1, 0);
        x.pass(1);
        Checks.due("laid", x.sectionOf(0, 4), 45);
        Checks.due("tone(1, 5)", x.tone(1, 5), 5);
        Checks.due("drop(1)", x.drop(1), 45);
        Checks.due("tone(1, 4)", x.tone(1, 4), 0);
        Checks.due("tone(1, 5) then", x.tone(1, 5), 50);
        Checks.due("count(1)", x.count(1), 2);
        Checks.due("count(2)", x.count(2), 0);
        Checks.holds("order", Looks.orderOf(x).equals("0 2"));
        Checks.due("drop(2)", x.drop(2), 0);
        x.undo();
        x.undo();
        Checks.due("laid behind undo", x.sectionOf(0, 4), 45);
    }

    static void promise07NothingIsLeftOfOneThatIsDropped() {
        GoldSheets x = new GoldSheets();
        x.section(0, 100, 4);
        x.cut(0, 0);
        x.pass(1);
        x.drop(0);
        x.section(3, 7, 2);
        Checks.holds("a new section", Looks.sectionsOf(x).equals("1,3,7,2,0,0"));
        Checks.due("drop(1)", x.drop(1), 0);
    }

    static void promise07DropRefuses() {
        GoldSheets x = new GoldSheets();
        Checks.refuses(x, NO_INDEX, "drop(0)", () -> x.drop(0));
        x.section(0, 9, 9);
        x.section(0, 1, 9);
        Checks.refuses(x, NO_INDEX, "drop(-1)", () -> x.drop(-1));
        Checks.refuses(x, NO_INDEX, "drop(2)", () -> x.drop(2));
        x.drop(0);
        Checks.refuses(x, NO_INDEX, "drop(0) twice", () -> x.drop(0));
        x.cut(0, 0);
        x.pass(1);
        Checks.due("count(2)", x.count(2), 1);
        Checks.refuses(x, NO_INDEX, "drop(1) of one that is done", () -> x.drop(1));
    }

    static void promise08Set() {
        int[] lowest = {1, 10, 0, 0, 1, 0};
        int[] highest = {200, 500, 1, 9, 99, 99};
        int[] first = {50, 120, 0, 2, 30, 10};
        GoldSheets x = new GoldSheets();
        for (int s = 0; s < 6; s++) {
            int setting = s;
            Checks.due("set(" + s + ", lowest)", x.set(s, lowest[s]), first[s]);
            Checks.due("set(" + s + ", highest)", x.set(s, highest[s]), lowest[s]);
            Checks.due("setting(" + s + ")", x.setting(s), highest[s]);
            Checks.refuses(x, NO_ARGUMENT, "set(" + s + ", below)", () -> x.set(setting, lowest[setting] - 1));
            Checks.refuses(x, NO_ARGUMENT, "set(" + s + ", above)", () -> x.set(setting, highest[setting] + 1));
        }
        Checks.refuses(x, NO_ARGUMENT, "set(5, 1)", () -> x.set(5, 1));
        Checks.due("set(5, 2)", x.set(5, 2), 99);
        Checks.due("set(5, 2) again", x.set(5, 2), 2);
        Checks.due("undo()", x.undo(), 5);
        Checks.due("undo()", x.undo(), 4);
        Checks.due("setting(5) behind undo", x.setting(5), 99);
        Checks.refuses(x, NO_INDEX, "set(6, 0)", () -> x.set(6, 0));
        Checks.refuses(x, NO_INDEX, "set(-1, -1)", () -> x.set(-1, -1));
    }

    static void promise08TraysKeepWhatTheyHave() {
        GoldSheets x = new GoldSheets();
        x.cut(0, 0);
        x.cut(0, 0);
        x.set(1, 10);
        Checks.due("tray(0, 0)", x.tray(0, 0), 100);
        Checks.due("count(7)", x.count(7), 0);
        Checks.due("cut(0, 1)", x.cut(0, 1), 10);
    }

    static void promise09ASetterLaysAndCubesBreak() {
        GoldSheets x = new GoldSheets();
        x.section(0, 40, 0);
        x.cut(0, 1);
        Checks.due("pass(1)", x.pass(1), 40);
        // 30 of which 3 break, and then taken(13) = 14 of which 1 breaks
        Checks.due("tray(1, 0)", x.tray(1, 0), 6);
        Checks.due("count(7)", x.count(7), 4);
        Checks.due("count(2)", x.count(2), 1);
        Checks.due("count(3)", x.count(3), 0);
        Checks.due("count(0)", x.count(0), 1);
        Checks.due("tone(0, 4)", x.tone(0, 4), 40);
    }

    static void promise09NothingBreaks() {
        GoldSheets x = new GoldSheets();
        x.set(5, 0);
        x.section(0, 45, 0);
        x.cut(0, 1);
        Checks.due("pass(1)", x.pass(1), 45);
        Checks.due("tray(1, 0)", x.tray(1, 0), 5);
        Checks.due("count(7)", x.count(7), 0);
    }

    static void promise09LowestTraysFirstAndNotMixedOnes() {
        GoldSheets x = new GoldSheets();
        x.set(0, 20);
        x.set(5, 0);
        x.set(3, 1);
        x.section(1, 200, 0);
        x.cut(1, 4);
        x.cut(1, 2);
        x.cut(0, 0);
        x.cut(1, 0);
        x.cut(0, 1);
        x.cut(1, 1);
        // the one setter sorts tray 0: its 20 of tone 1 go to tray 3; tray 1 stays mixed up
        Checks.due("pass(1)", x.pass(1), 0);
        Checks.holds("tray 0", Looks.trayOf(x, 0).equals("20,0,0,0"));
        Checks.holds("tray 3", Looks.trayOf(x, 3).equals("0,20,0,0"));
        Checks.due("count(5)", x.count(5), 1);
        x.set(3, 2);
        // one sorts tray 1 into tray 5, the other takes 20 of tray 2 and 10 of tray 3
        Checks.due("pass(1) then", x.pass(1), 30);
        Checks.due("tray(2, 1)", x.tray(2, 1), 0);
        Checks.due("tray(3, 1)", x.tray(3, 1), 10);
        Checks.due("tray(4, 1)", x.tray(4, 1), 20);
        Checks.due("tray(5, 1)", x.tray(5, 1), 20);
        Checks.due("count(8)", x.count(8), 2);
        x.cut(2, 3);
        x.set(3, 0);
        Checks.due("pass(1) without setters", x.pass(1), 0);
        Checks.due("count(8) without setters", x.count(8), 2);
    }

    static void promise09CubesInMixedTraysAreNotTaken() {
        GoldSheets x = new GoldSheets();
        x.set(1, 500);
        x.cut(0, 0);
        x.cut(1, 0);
        for (int tray = 1; tray < 6; tray++) {
            x.cut(2, tray);
        }
        x.section(0, 9, 9);
        // no tray is empty: the mixed up one takes a setter each day, and stays
        Checks.due("pass(3)", x.pass(3), 0);
        Checks.due("count(8)", x.count(8), 3);
        Checks.due("count(5)", x.count(5), 1);
        x.section(2, 9, 9);
        Checks.due("pass(1)", x.pass(1), 9);
    }

    static void promise09SortKeepsTheMostOrTheLowest() {
        GoldSheets x = new GoldSheets();
        x.set(1, 300);
        x.cut(3, 2);
        x.cut(0, 2);
        x.cut(1, 2);
        x.cut(1, 2);
        x.cut(3, 2);
        x.pass(1);
        Checks.holds("tone 1 stays", Looks.trayOf(x, 2).equals("0,100,0,0"));
        Checks.holds("tone 0 goes first", Looks.trayOf(x, 0).equals("50,0,0,0"));
        Checks.holds("tone 3 behind it", Looks.trayOf(x, 1).equals("0,0,0,100"));
        Checks.due("count(8)", x.count(8), 1);
    }

    static void promise09SortAsFarAsThereIsRoom() {
        GoldSheets x = new GoldSheets();
        x.cut(1, 0);
        x.cut(2, 0);
        x.cut(0, 1);
        x.set(1, 10);
        x.pass(1);
        Checks.holds("tray 0", Looks.trayOf(x, 0).equals("0,50,40,0"));
        Checks.holds("tray 2", Looks.trayOf(x, 2).equals("0,0,10,0"));
        x.pass(4);
        Checks.holds("no tray is empty then", Looks.trayOf(x, 0).equals("0,50,10,0"));
        Checks.due("count(6)", x.count(6), 0);
        Checks.due("count(8)", x.count(8), 5);
        Checks.due("count(5)", x.count(5), 1);
        x.tip(5, 3);
        Checks.due("tray(5, 2): no room in the other", x.tray(5, 2), 10);
        x.sweep(5);
        x.pass(1);
        Checks.holds("tray 5 again", Looks.trayOf(x, 5).equals("0,0,10,0"));
        Checks.holds("sorted at last", Looks.trayOf(x, 0).equals("0,50,0,0"));
        x.pass(1);
        Checks.due("count(8) then", x.count(8), 6);
    }

    static void promise09SectionsInTheirOrder() {
        GoldSheets x = new GoldSheets();
        x.set(3, 3);
        x.set(4, 20);
        x.set(5, 0);
        x.section(0, 50, 5);
        x.section(0, 30, 7);
        x.cut(0, 0);
        x.cut(0, 0);
        GoldSheets y = new GoldSheets();
        y.set(2, 1);
        y.set(3, 3);
        y.set(4, 20);
        y.set(5, 0);
        y.section(0, 50, 5);
        y.section(0, 30, 7);
        y.cut(0, 0);
        y.cut(0, 0);
        Checks.due("pass(1) by day", x.pass(1), 50);
        Checks.holds("section 0 is done", Looks.sectionsOf(x).equals("1,0,30,7,0,0"));
        Checks.due("pass(1) by cubes", y.pass(1), 50);
        Checks.holds("section 1 is done", Looks.sectionsOf(y).equals("0,0,30,5,20,0"));
    }

    static void promise09TheOrderIsThatAheadOfTheLaying() {
        GoldSheets x = new GoldSheets();
        x.set(2, 1);
        x.set(3, 3);
        x.set(4, 10);
        x.set(5, 0);
        x.section(0, 25, 5);
        x.section(0, 21, 5);
        x.section(1, 24, 5);
        x.cut(0, 0);
        x.sweep(0);
        x.set(0, 15);
        x.cut(0, 0);
        x.cut(1, 1);
        // section 1 gets 10 and 5 and then finds no cube; section 2 gets 10, section 0 none
        Checks.due("pass(1)", x.pass(1), 25);
        Checks.holds("then", Looks.sectionsOf(x).equals("1,0,6,5,15,0 2,1,14,5,10,0 0,0,25,5,0,0"));
    }

    static void promise09TheOrderFollowsTheLaying() {
        GoldSheets x = new GoldSheets();
        x.set(2, 1);
        x.section(0, 50, 5);
        x.section(1, 40, 5);
        x.section(2, 45, 5);
        x.cut(0, 0);
        Checks.holds("order", Looks.orderOf(x).equals("1 2 0"));
        x.pass(1);
        Checks.holds("order behind a day", Looks.sectionsOf(x).equals("0,0,5,5,45,0 1,1,40,5,0,0 2,2,45,5,0,0"));
    }

    static void promise09SingleCubes() {
        GoldSheets x = new GoldSheets();
        x.set(0, 1);
        x.set(3, 1);
        x.section(0, 2, 5);
        x.cut(0, 0);
        Checks.due("pass(1) with a single cube", x.pass(1), 1);
        x.cut(0, 1);
        x.cut(1, 1);
        Checks.due("count(5)", x.count(5), 1);
        Checks.due("pass(1) sorts single cubes", x.pass(1), 0);
        Checks.holds("tray 1", Looks.trayOf(x, 1).equals("1,0,0,0"));
        Checks.holds("tray 0", Looks.trayOf(x, 0).equals("0,1,0,0"));
        Checks.due("pass(1) then", x.pass(1), 1);
        Checks.due("count(2)", x.count(2), 1);
    }

    static void promise09ASetterPassesByMixedTrays() {
        GoldSheets x = new GoldSheets();
        x.set(1, 100);
        x.set(5, 0);
        x.set(3, 3);
        x.section(0, 60, 5);
        x.cut(0, 0);
        x.cut(1, 0);
        x.cut(0, 2);
        x.cut(1, 1);
        x.cut(2, 3);
        x.cut(2, 4);
        x.cut(3, 5);
        // no tray is empty: tray 0 stays mixed up, and only the 50 of tray 2 can be taken
        Checks.due("pass(1)", x.pass(1), 50);
        Checks.holds("tray 0", Looks.trayOf(x, 0).equals("50,50,0,0"));
        Checks.due("tray(2, NONE)", x.tray(2, -1), 0);
        // now tone 1 goes to tray 2, and the 50 of tray 0 are there to be taken
        Checks.due("pass(1) then", x.pass(1), 10);
        Checks.due("tray(0, 0)", x.tray(0, 0), 40);
        Checks.due("tray(2, 1)", x.tray(2, 1), 50);
    }

    static void promise09LateSections() {
        GoldSheets x = new GoldSheets();
        x.section(0, 10, 3);
        x.section(1, 10, 1);
        x.section(2, 10, 0);
        x.pass(3);
        x.cut(0, 0);
        x.cut(1, 1);
        x.cut(2, 2);
        x.set(3, 3);
        x.pass(1);
        Checks.due("count(2)", x.count(2), 3);
        Checks.due("count(3)", x.count(3), 2);
        Checks.due("count(4)", x.count(4), 5);
        Checks.due("count(0)", x.count(0), 4);
    }

    static void promise09PassIsOneCallToUndo() {
        GoldSheets x = new GoldSheets();
        x.section(0, 500, 9);
        x.cut(0, 0);
        String before = Looks.of(x);
        Checks.due("pass(60)", x.pass(60), 45);
        Checks.due("count(0)", x.count(0), 60);
        Checks.due("count(9)", x.count(9), 3);
        x.undo();
        Checks.holds("all is as before", Looks.of(x).equals(before));
    }

    static void promise09TheLastDay() {
        GoldSheets x = new GoldSheets();
        for (int time = 0; time < 166; time++) {
            x.pass(60);
        }
        Checks.due("count(0)", x.count(0), 9960);
        Checks.refuses(x, NO_STATE, "pass(40)", () -> x.pass(40));
        Checks.refuses(x, NO_ARGUMENT, "pass(61)", () -> x.pass(61));
        x.pass(39);
        Checks.due("count(0) then", x.count(0), 9999);
        Checks.refuses(x, NO_STATE, "pass(1)", () -> x.pass(1));
    }

    static void promise09PassRefuses() {
        GoldSheets x = new GoldSheets();
        Checks.refuses(x, NO_ARGUMENT, "pass(0)", () -> x.pass(0));
        Checks.refuses(x, NO_ARGUMENT, "pass(61)", () -> x.pass(61));
        Checks.refuses(x, NO_ARGUMENT, "pass(-5)", () -> x.pass(-5));
        Checks.refuses(x, NO_ARGUMENT, "pass(most)", () -> x.pass(Integer.MAX_VALUE));
    }
}
