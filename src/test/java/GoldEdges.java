/** The edges of promises 1 to 5: a new object, store, cut, tip, sweep. */
final class GoldEdges {
    private static final Class<IndexOutOfBoundsException> NO_INDEX = IndexOutOfBoundsException.class;
    private static final Class<IllegalArgumentException> NO_ARGUMENT = IllegalArgumentException.class;
    private static final Class<IllegalStateException> NO_STATE = IllegalStateException.class;

    private GoldEdges() {
    }

    /** Each tray has 10 cubes of tone 0. */
    private static GoldSheets tenInEach() {
        GoldSheets x = new GoldSheets();
        x.store(0, 2);
        x.set(0, 10);
        for (int tray = 0; tray < 6; tray++) {
            x.cut(0, tray);
        }
        return x;
    }

    static void promise01EdgeOfAnObjectInWhichNothingIs() {
        GoldSheets x = new GoldSheets();
        for (int what = 0; what <= 5; what++) {
            Checks.due("sectionOf(0, " + what + ")", x.sectionOf(0, what), GoldSheets.NONE);
        }
        for (int what = 0; what <= 3; what++) {
            Checks.due("ifPassed(60, " + what + ")", x.ifPassed(60, what), 0);
        }
        for (int tone = 0; tone < 4; tone++) {
            Checks.due("missing(" + tone + ")", x.missing(tone), 0);
        }
        Checks.due("bestOrder(30)", x.bestOrder(30), 0);
        Checks.dueShare("laidShare()", x.laidShare(), 1.0);
        Checks.due("firstError()", x.firstError(), 0);
        Checks.due("clearBuffer()", x.clearBuffer(), 0);
        Twins.refuse(GoldSheets::new, NO_INDEX, "drop(0)", y -> y.drop(0));
        Twins.refuse(GoldSheets::new, NO_INDEX, "doneIn(0)", y -> y.doneIn(0));
        Twins.refuse(GoldSheets::new, NO_ARGUMENT, "addAll()", GoldSheets::addAll);
        Twins.refuse(GoldSheets::new, NO_STATE, "undo()", GoldSheets::undo);
        Checks.due("section(0, 1, 0)", x.section(0, 1, 0), 0);
    }

    static void promise02EdgeOfTheTones() {
        Ranges.hold("store of tone", 0, 3, NO_INDEX, GoldSheets::new, (x, tone) -> x.store(tone, 1), tone -> 6);
    }

    static void promise02EdgeOfTheSheets() {
        Ranges.hold("store of sheets", 1, 99, NO_ARGUMENT, GoldSheets::new,
                (x, sheets) -> x.store(1, sheets), sheets -> 5 + sheets);
    }

    static void promise02EdgeOf999Sheets() {
        int[][] thatFit = {{997, 1}, {997, 2}, {998, 1}, {899, 99}, {900, 99}, {949, 49}, {950, 49}};
        for (int[] row : thatFit) {
            GoldSheets x = Made.withSheets(2, row[0]);
            Checks.due("store(2, " + row[1] + ") to " + row[0], x.store(2, row[1]), row[0] + row[1]);
            Checks.due("tone(2, 0)", x.tone(2, 0), row[0] + row[1]);
        }
        int[][] thatDoNot = {{997, 3}, {998, 2}, {999, 1}, {901, 99}, {999, 99}, {950, 50}};
        for (int[] row : thatDoNot) {
            Twins.refuse(() -> Made.withSheets(2, row[0]), NO_STATE, "store(2, " + row[1] + ") to " + row[0],
                    x -> x.store(2, row[1]));
        }
    }

    static void promise02EdgeOf999SheetsIsThatOfOneTone() {
        GoldSheets x = Made.withSheets(2, 999);
        Checks.due("store(1, 99)", x.store(1, 99), 104);
        Checks.due("store(3, 1)", x.store(3, 1), 6);
        x.cut(2, 0);
        Checks.refuses(x, NO_STATE, "store(2, 2) behind a cut", () -> x.store(2, 2));
        Checks.due("store(2, 1) behind a cut", x.store(2, 1), 999);
        Checks.refuses(x, NO_STATE, "store(2, 1)", () -> x.store(2, 1));
    }

    static void promise03EdgeOfTheTones() {
        Ranges.hold("cut of tone", 0, 3, NO_INDEX, GoldSheets::new, (x, tone) -> {
            x.cut(tone, 0);
            return x.tray(0, tone);
        }, tone -> 50);
    }

    static void promise03EdgeOfTheTrays() {
        Ranges.hold("cut into tray", 0, 5, NO_INDEX, GoldSheets::new, (x, tray) -> {
            x.cut(2, tray);
            return x.tray(tray, 2);
        }, tray -> 50);
    }

    static void promise03EdgeOfAStoreWithoutASheet() {
        for (int t = 0; t < 4; t++) {
            int tone = t;
            GoldSheets x = Made.withoutSheets(tone);
            Checks.due("tone(" + tone + ", 0)", x.tone(tone, 0), 0);
            Twins.refuse(() -> Made.withoutSheets(tone), NO_STATE, "cut of no sheet", y -> y.cut(tone, 5));
            Checks.due("cut of another tone", x.cut((tone + 1) % 4, 5), 50);
            x.store(tone, 1);
            Checks.due("cut of the last sheet", x.cut(tone, 4), 50);
            Checks.due("tone(" + tone + ", 0) then", x.tone(tone, 0), 0);
            Checks.refuses(x, NO_STATE, "cut behind the last sheet", () -> x.cut(tone, 4));
        }
    }

    private static void cutInto(int room, int cubes, int sheet, int gets) {
        GoldSheets x = new GoldSheets();
        if (cubes > 0) {
            Made.put(x, 3, 1, cubes);
        }
        x.set(0, sheet);
        x.set(1, room);
        String what = sheet + " into a tray with " + cubes + " of " + room;
        Checks.due("cut of " + what, x.cut(2, 3), gets);
        Checks.due("tray of " + what, x.tray(3, GoldSheets.NONE), cubes + gets);
        Checks.due("cubes that were cut of " + what, x.tone(2, 3), sheet);
        Checks.due("cubes that were swept of " + what, x.tone(2, 5), sheet - gets);
        Checks.due("sheets of " + what, x.tone(2, 0), 4);
        Checks.due("cubes of the other tone in " + what, x.tray(3, 1), cubes);
    }

    static void promise03EdgeOfATrayThatIsEmpty() {
        cutInto(120, 0, 119, 119);
        cutInto(120, 0, 120, 120);
        cutInto(120, 0, 121, 120);
        cutInto(120, 0, 1, 1);
        cutInto(10, 0, 200, 10);
        cutInto(500, 0, 200, 200);
    }

    static void promise03EdgeOfATrayThatIsFull() {
        cutInto(120, 118, 2, 2);
        cutInto(120, 119, 2, 1);
        cutInto(120, 120, 2, 0);
        cutInto(120, 119, 1, 1);
        cutInto(120, 120, 1, 0);
        cutInto(120, 70, 49, 49);
        cutInto(120, 70, 50, 50);
        cutInto(120, 70, 51, 50);
    }

    static void promise03EdgeOfATrayThatHasMoreThanItsRoom() {
        cutInto(120, 121, 2, 0);
        cutInto(120, 121, 1, 0);
        cutInto(10, 200, 200, 0);
        cutInto(10, 11, 1, 0);
        cutInto(10, 9, 200, 1);
    }

    static void promise04EdgeOfTheTrays() {
        Ranges.hold("tip of tray", 0, 5, NO_INDEX, GoldEdges::tenInEach, (x, tray) -> {
            x.tip(tray, (tray + 3) % 6);
            return x.tray((tray + 3) % 6, 0);
        }, tray -> 20);
        Ranges.hold("tip into tray", 0, 5, NO_INDEX, GoldEdges::tenInEach, (x, other) -> {
            x.tip(other < 0 || other > 5 ? 0 : (other + 1) % 6, other);
            return x.tray(other, 0);
        }, other -> 20);
    }

    static void promise04EdgeOfATrayAndItself() {
        for (int t = 0; t < 6; t++) {
            int tray = t;
            Twins.refuse(GoldEdges::tenInEach, NO_ARGUMENT, "tip of tray " + tray + " into itself",
                    x -> x.tip(tray, tray));
            GoldSheets x = tenInEach();
            Checks.due("tip of tray " + tray, x.tip(tray, (tray + 1) % 6), 10);
            Checks.due("tip into tray " + tray, x.tip((tray + 1) % 6, tray), 20);
        }
    }

    private static void tipInto(int room, int from, int into, int gets) {
        GoldSheets x = new GoldSheets();
        if (from > 0) {
            Made.put(x, 4, 0, from);
        }
        if (into > 0) {
            Made.put(x, 2, 3, into);
        }
        x.set(1, room);
        String what = from + " into a tray with " + into + " of " + room;
        Checks.due("tip of " + what, x.tip(4, 2), gets);
        Checks.due("the other one of " + what, x.tray(2, 0), gets);
        Checks.due("what it had of " + what, x.tray(2, 3), into);
        Checks.due("what stays of " + what, x.tray(4, GoldSheets.NONE), from - gets);
        Checks.due("what is swept of " + what, x.count(7), 0);
    }

    static void promise04EdgeOfATrayThatIsEmpty() {
        tipInto(120, 0, 0, 0);
        tipInto(120, 0, 120, 0);
        tipInto(120, 1, 0, 1);
        tipInto(120, 119, 0, 119);
        tipInto(120, 120, 0, 120);
        tipInto(120, 121, 0, 120);
        tipInto(10, 200, 0, 10);
    }

    static void promise04EdgeOfATrayThatIsFull() {
        tipInto(120, 30, 89, 30);
        tipInto(120, 30, 90, 30);
        tipInto(120, 30, 91, 29);
        tipInto(120, 30, 119, 1);
        tipInto(120, 30, 120, 0);
    }

    static void promise04EdgeOfATrayThatHasMoreThanItsRoom() {
        tipInto(120, 30, 121, 0);
        tipInto(10, 1, 11, 0);
        tipInto(10, 1, 200, 0);
        tipInto(10, 200, 9, 1);
    }

    static void promise04EdgeBetweenTwoTones() {
        int[] free = {0, 4, 5, 6, 11, 12, 18, 19, 25, 26, 27};
        String[] left = {"5,6,7,8", "1,6,7,8", "0,6,7,8", "0,5,7,8", "0,0,7,8", "0,0,6,8", "0,0,0,8", "0,0,0,7",
            "0,0,0,1", "0,0,0,0", "0,0,0,0"};
        for (int row = 0; row < free.length; row++) {
            GoldSheets x = new GoldSheets();
            for (int tone = 3; tone >= 0; tone--) {
                Made.put(x, 0, tone, 5 + tone);
            }
            Made.put(x, 1, 3, 120 - free[row]);
            Checks.due("tip with room for " + free[row], x.tip(0, 1), Math.min(26, free[row]));
            Checks.dueText("what stays with room for " + free[row], Looks.trayOf(x, 0), left[row]);
        }
    }

    static void promise05EdgeOfTheTrays() {
        Ranges.hold("sweep of tray", 0, 5, NO_INDEX, GoldEdges::tenInEach,
                (x, tray) -> 100 * x.sweep(tray) + x.tray(tray, 0), tray -> 1000);
    }

    static void promise05EdgeOfATrayThatIsEmptyFullOrMore() {
        for (int cubes : new int[] {1, 119, 120, 121}) {
            GoldSheets x = Made.withCubes(3, 1, cubes);
            Checks.due("sweep of " + cubes, x.sweep(3), cubes);
            Checks.due("tone(1, 5) of " + cubes, x.tone(1, 5), cubes);
            Checks.due("tray(3, NONE)", x.tray(3, GoldSheets.NONE), 0);
            Checks.due("sweep of an empty one", x.sweep(3), 0);
            Checks.due("tone(1, 5) then", x.tone(1, 5), cubes);
        }
        GoldSheets y = new GoldSheets();
        Checks.due("sweep(5) of a new object", y.sweep(5), 0);
        Checks.due("count(9)", y.count(9), 1);
        Checks.due("count(7)", y.count(7), 0);
    }
}
