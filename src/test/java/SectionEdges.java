import java.util.function.Supplier;

/** The edges of promises 6 to 8: section, drop, set. */
final class SectionEdges {
    private static final Class<IndexOutOfBoundsException> NO_INDEX = IndexOutOfBoundsException.class;
    private static final Class<IllegalArgumentException> NO_ARGUMENT = IllegalArgumentException.class;
    private static final Class<IllegalStateException> NO_STATE = IllegalStateException.class;
    private static final int[] FIRST_SETTINGS = {50, 120, 0, 2, 30, 10};

    private SectionEdges() {
    }

    static void promise06EdgeOfTheTones() {
        Ranges.hold("section of tone", 0, 3, NO_INDEX, GoldSheets::new, (x, tone) -> {
            x.section(tone, 1, 0);
            return x.sectionOf(0, 1);
        }, tone -> tone);
    }

    static void promise06EdgeOfTheCubes() {
        Ranges.hold("section of cubes", 1, 500, NO_ARGUMENT, GoldSheets::new, (x, cubes) -> {
            x.section(0, cubes, 0);
            return x.sectionOf(0, 2);
        }, cubes -> cubes);
    }

    static void promise06EdgeOfTheDays() {
        Ranges.hold("section by day", 0, 999, NO_ARGUMENT, GoldSheets::new, (x, day) -> {
            x.section(0, 1, day);
            return x.sectionOf(0, 3);
        }, day -> day);
    }

    static void promise06EdgeOfTenSections() {
        for (int sections : new int[] {0, 1, 8, 9}) {
            GoldSheets x = Made.withSections(sections);
            Checks.due("section behind " + sections, x.section(3, 2, 1), sections);
            Checks.due("count(1) behind " + sections, x.count(1), sections + 1);
        }
        Twins.refuse(() -> Made.withSections(10), NO_STATE, "section behind ten", x -> x.section(3, 2, 1));
    }

    static void promise06EdgeOfTenSectionsOfWhichOneIsGone() {
        GoldSheets dropped = Made.withSections(10);
        dropped.drop(9);
        Checks.due("section behind drop", dropped.section(0, 1, 0), 10);
        Checks.refuses(dropped, NO_STATE, "section again", () -> dropped.section(0, 1, 0));
        GoldSheets done = Made.withSections(10);
        done.set(3, 1);
        Made.put(done, 0, 0, 9);
        done.pass(1);
        Checks.due("section behind one that is done", done.section(0, 1, 0), 10);
        Checks.refuses(done, NO_STATE, "section again", () -> done.section(0, 1, 0));
        GoldSheets undone = Made.withSections(10);
        undone.undo();
        Checks.due("section behind undo", undone.section(0, 1, 0), 9);
        Checks.refuses(undone, NO_STATE, "section again", () -> undone.section(0, 1, 0));
    }

    static void promise06EdgeOfTheOrder() {
        GoldSheets x = new GoldSheets();
        int[][] cubesAndDay = {{7, 5}, {6, 6}, {7, 4}, {8, 5}, {7, 5}, {1, 999}, {500, 0}};
        for (int[] row : cubesAndDay) {
            x.section(0, row[0], row[1]);
        }
        Checks.dueText("the order by days", Looks.orderOf(x), "6 2 0 3 4 1 5");
        x.set(2, 1);
        Checks.dueText("the order by cubes", Looks.orderOf(x), "5 1 0 2 4 3 6");
        x.undo();
        Checks.dueText("the order behind undo", Looks.orderOf(x), "6 2 0 3 4 1 5");
    }

    static void promise07EdgeOfTheNumbers() {
        Ranges.hold("drop of number", 0, 9, NO_INDEX, () -> Made.withSections(10), (x, number) -> {
            x.drop(number);
            return x.count(1);
        }, number -> 9);
    }

    /** Of the sections 0 to 3, 1 is done and 2 is dropped; 3 came and went by undo. */
    static GoldSheets withSectionsThatAreGone() {
        GoldSheets x = new GoldSheets();
        Made.put(x, 0, 1, 10);
        x.section(0, 10, 5);
        x.section(1, 5, 6);
        x.section(2, 10, 7);
        x.pass(1);
        x.drop(2);
        x.section(3, 10, 0);
        x.undo();
        return x;
    }

    static void promise07EdgeOfASectionThatIsGone() {
        for (int n = 1; n <= 3; n++) {
            int number = n;
            Twins.refuse(SectionEdges::withSectionsThatAreGone, NO_INDEX, "drop(" + number + ")",
                    x -> x.drop(number));
        }
        GoldSheets x = withSectionsThatAreGone();
        Checks.due("drop(0)", x.drop(0), 0);
        Checks.refuses(x, NO_INDEX, "drop(0) again", () -> x.drop(0));
        x.undo();
        Checks.due("drop(0) behind undo", x.drop(0), 0);
    }

    static void promise07EdgeOfWhatIsLaid() {
        for (int laid : new int[] {0, 1, 98, 99}) {
            GoldSheets x = new GoldSheets();
            x.set(5, 0);
            x.set(4, 99);
            x.section(2, 100, 5);
            if (laid > 0) {
                Made.put(x, 0, 2, laid);
            }
            Checks.due("pass(1) with " + laid, x.pass(1), laid);
            Checks.due("tone(2, 4) of " + laid, x.tone(2, 4), laid);
            Checks.due("drop(0) of " + laid, x.drop(0), laid);
            Checks.due("tone(2, 5) of " + laid, x.tone(2, 5), laid);
            Checks.due("tone(2, 4) then", x.tone(2, 4), 0);
            Checks.due("count(2)", x.count(2), 0);
        }
    }

    private static void range(int setting, int lowest, int highest) {
        Ranges.hold("set(" + setting + ") to", lowest, highest, NO_ARGUMENT, GoldSheets::new,
                (x, value) -> 1000 * x.set(setting, value) + x.setting(setting),
                value -> 1000 * FIRST_SETTINGS[setting] + value);
    }

    static void promise08EdgeOfTheSettings() {
        Ranges.hold("set of setting", 0, 5, NO_INDEX, GoldSheets::new,
                (x, setting) -> x.set(setting, setting == 2 ? 1 : setting == 3 ? 9 : 60),
                setting -> FIRST_SETTINGS[setting]);
    }

    static void promise08EdgeOfEachValue() {
        range(0, 1, 200);
        range(1, 10, 500);
        range(2, 0, 1);
        range(3, 0, 9);
        range(4, 1, 99);
        range(5, 2, 99, 0);
    }

    /** As range, of a setting that has one value more, apart from the others. */
    private static void range(int setting, int lowest, int highest, int apart) {
        Supplier<GoldSheets> maker = GoldSheets::new;
        for (int value : new int[] {apart, lowest, lowest + 1, highest - 1, highest}) {
            GoldSheets x = maker.get();
            Checks.due("set(" + setting + ", " + value + ")", x.set(setting, value), FIRST_SETTINGS[setting]);
            Checks.due("setting(" + setting + ")", x.setting(setting), value);
        }
        int[] others = {apart - 1, apart + 1, highest + 1, Integer.MIN_VALUE, Integer.MAX_VALUE};
        for (int value : others) {
            Twins.refuse(maker, NO_ARGUMENT, "set(" + setting + ", " + value + ")", x -> x.set(setting, value));
        }
    }

    static void promise08EdgeOfTheSameValue() {
        for (int setting = 0; setting < 6; setting++) {
            GoldSheets x = new GoldSheets();
            Checks.due("set to the same", x.set(setting, FIRST_SETTINGS[setting]), FIRST_SETTINGS[setting]);
            Checks.due("count(9)", x.count(9), 1);
        }
    }

    static void promise08EdgeOfATrayThatKeepsMore() {
        int[] rooms = {99, 100, 101};
        int[] gets = {0, 0, 1};
        for (int row = 0; row < rooms.length; row++) {
            GoldSheets x = Made.withCubes(0, 1, 100);
            x.set(1, rooms[row]);
            Checks.due("tray(0, 1) of room " + rooms[row], x.tray(0, 1), 100);
            Checks.due("count(7) of room " + rooms[row], x.count(7), 0);
            Checks.due("cut with room " + rooms[row], x.cut(1, 0), gets[row]);
            x.set(1, 10);
            Checks.due("tray(0, 1) of room 10", x.tray(0, 1), 100 + gets[row]);
        }
    }
}
