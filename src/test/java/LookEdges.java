/** The edges of promises 15 to 19: tray, sectionOf, tone, count, setting. */
final class LookEdges {
    private static final Class<IndexOutOfBoundsException> NO_INDEX = IndexOutOfBoundsException.class;
    private static final Class<IllegalArgumentException> NO_ARGUMENT = IllegalArgumentException.class;

    private LookEdges() {
    }

    /** Tray t has t + 1 cubes of tone 2. */
    private static GoldSheets withStairs() {
        GoldSheets x = new GoldSheets();
        for (int tray = 0; tray < 6; tray++) {
            Made.put(x, tray, 2, tray + 1);
        }
        return x;
    }

    /** Tray 3 has 4, 3, 2, 1 cubes of the tones. */
    private static GoldSheets withAllTones() {
        GoldSheets x = new GoldSheets();
        for (int tone = 0; tone < 4; tone++) {
            Made.put(x, 3, tone, 4 - tone);
        }
        return x;
    }

    static void promise15EdgeOfTheTrays() {
        Ranges.hold("of a tone: tray", 0, 5, NO_INDEX, LookEdges::withStairs,
                (x, tray) -> x.tray(tray, 2), tray -> tray + 1);
        Ranges.hold("of NONE: tray", 0, 5, NO_INDEX, LookEdges::withStairs,
                (x, tray) -> x.tray(tray, GoldSheets.NONE), tray -> tray + 1);
    }

    static void promise15EdgeOfTheTones() {
        Ranges.hold("tray of tone", GoldSheets.NONE, 3, NO_INDEX, LookEdges::withAllTones,
                (x, tone) -> x.tray(3, tone), tone -> tone == GoldSheets.NONE ? 10 : 4 - tone);
    }

    static void promise15EdgeOfATrayThatIsEmptyFullOrMore() {
        for (int cubes : new int[] {1, 119, 120, 121, 200}) {
            GoldSheets x = Made.withCubes(1, 3, cubes);
            Checks.due("tray(1, 3) of " + cubes, x.tray(1, 3), cubes);
            Checks.due("tray(1, NONE) of " + cubes, x.tray(1, GoldSheets.NONE), cubes);
            Checks.due("tray(1, 2) of " + cubes, x.tray(1, 2), 0);
            Checks.due("tray(0, NONE) that is empty", x.tray(0, GoldSheets.NONE), 0);
            Checks.due("tray(2, 3) that is empty", x.tray(2, 3), 0);
        }
    }

    private static int allOf(GoldSheets x, int place) {
        int sum = 0;
        for (int what = 0; what <= 5; what++) {
            sum += x.sectionOf(place, what);
        }
        return sum;
    }

    static void promise16EdgeOfThePlaces() {
        for (int sections : new int[] {0, 1, 2, 9, 10}) {
            GoldSheets x = Made.withSections(sections);
            for (int place = 0; place < sections; place++) {
                Checks.due("sectionOf(" + place + ", 0) of " + sections, x.sectionOf(place, 0), place);
            }
            for (int place : new int[] {sections, sections + 1, 10, 11, Integer.MAX_VALUE}) {
                Checks.due("sectionOf(" + place + ", 0 to 5) of " + sections, allOf(x, place), -6);
            }
            Twins.refuse(() -> Made.withSections(sections), NO_ARGUMENT, "sectionOf(-1, 0) of " + sections,
                    y -> y.sectionOf(-1, 0));
            Twins.refuse(() -> Made.withSections(sections), NO_ARGUMENT, "sectionOf(least, 5) of " + sections,
                    y -> y.sectionOf(Integer.MIN_VALUE, 5));
        }
    }

    /** One section on day 4, by day 3, in which 9 of 17 cubes are laid. */
    private static GoldSheets withOneSection() {
        GoldSheets x = Made.onDay(2);
        x.section(1, 1, 0);
        x.drop(0);
        x.section(2, 17, 3);
        Made.put(x, 0, 2, 9);
        x.pass(2);
        return x;
    }

    static void promise16EdgeOfWhat() {
        int[] properties = {1, 2, 8, 3, 9, 1};
        Ranges.hold("of place 0: sectionOf what", 0, 5, NO_ARGUMENT, LookEdges::withOneSection,
                (x, what) -> x.sectionOf(0, what), what -> properties[what]);
        Checks.dueText("all properties", Looks.sectionOf(withOneSection(), 0), "1,2,8,3,9,1");
        Ranges.hold("behind the last place: sectionOf what", 0, 5, NO_ARGUMENT, LookEdges::withOneSection,
                (x, what) -> x.sectionOf(1, what), what -> GoldSheets.NONE);
    }

    static void promise16EdgeOfADayThatIsOver() {
        for (int due : new int[] {0, 1, 4, 5, 6, 999}) {
            GoldSheets x = Made.onDay(5);
            x.section(0, 1, due);
            Checks.due("sectionOf(0, 5) on day 5 by " + due, x.sectionOf(0, 5), due < 5 ? 1 : 0);
        }
        GoldSheets y = new GoldSheets();
        y.section(0, 1, 999);
        Made.passTo(y, 999);
        Checks.due("sectionOf(0, 5) on day 999", y.sectionOf(0, 5), 0);
        y.pass(1);
        Checks.due("sectionOf(0, 5) on day 1000", y.sectionOf(0, 5), 1);
    }

    static void promise16EdgeOfASectionThatIsGone() {
        GoldSheets x = SectionEdges.withSectionsThatAreGone();
        Checks.due("sectionOf(0, 0)", x.sectionOf(0, 0), 0);
        Checks.due("sectionOf(1, 0)", x.sectionOf(1, 0), GoldSheets.NONE);
        x.drop(0);
        Checks.due("sectionOf(0, 0) then", x.sectionOf(0, 0), GoldSheets.NONE);
    }

    /** Of tone 1: 3 sheets, 70 cubes in trays, 50 of these not mixed up, 100 cut, 27 laid, 3 swept, 8 wanted. */
    private static GoldSheets withNumbersOfToneOne() {
        GoldSheets x = new GoldSheets();
        x.section(1, 35, 0);
        x.set(0, 30);
        x.cut(1, 0);
        x.pass(1);
        Made.put(x, 0, 1, 20);
        Made.put(x, 0, 0, 1);
        x.set(0, 50);
        x.cut(1, 1);
        return x;
    }

    static void promise17EdgeOfTheTones() {
        Ranges.hold("what 0: tone", 0, 3, NO_INDEX, LookEdges::withNumbersOfToneOne,
                (x, tone) -> x.tone(tone, 0), tone -> tone == 1 ? 3 : 5);
        Ranges.hold("what 6: tone", 0, 3, NO_INDEX, () -> Made.withSections(10),
                (x, tone) -> x.tone(tone, 6), tone -> tone == 0 ? 10 : 0);
    }

    static void promise17EdgeOfWhat() {
        int[] numbers = {3, 70, 50, 100, 27, 3, 8};
        Ranges.hold("of tone 1: what", 0, 6, NO_ARGUMENT, LookEdges::withNumbersOfToneOne,
                (x, what) -> x.tone(1, what), what -> numbers[what]);
        Checks.dueText("all numbers", Looks.toneOf(withNumbersOfToneOne(), 1), "3,70,50,100,27,3,8");
    }

    static void promise17EdgeOfTraysThatAreMixedUp() {
        // each tray t has t + 1 cubes of tone 2; they are mixed up one after the other, from both ends
        GoldSheets x = withStairs();
        int[] trays = {0, 5, 1, 4, 2, 3};
        int ready = 21;
        for (int tray : trays) {
            Checks.due("tone(2, 2) ahead of tray " + tray, x.tone(2, 2), ready);
            Made.put(x, tray, 3, 1);
            ready -= tray + 1;
            Checks.due("tone(2, 1)", x.tone(2, 1), 21);
            Checks.due("tone(3, 2)", x.tone(3, 2), 0);
        }
        Checks.due("tone(2, 2) of mixed up trays alone", x.tone(2, 2), 0);
    }

    static void promise17EdgeOfNothingAndOfTheMost() {
        Checks.dueText("of no sheet", Looks.toneOf(Made.withoutSheets(3), 3), "0,0,0,250,0,250,0");
        Checks.dueText("of 999 sheets", Looks.toneOf(Made.withSheets(3, 999), 3), "999,0,0,0,0,0,0");
        GoldSheets x = new GoldSheets();
        for (int number = 0; number < 10; number++) {
            x.section(3, 500, 0);
        }
        Checks.due("tone(3, 6) of ten sections", x.tone(3, 6), 5000);
    }

    static void promise18EdgeOfWhat() {
        int[] counts = {60, 1, 0, 0, 0, 0, 5, 0, 0, 3};
        Ranges.hold("count of", 0, 9, NO_ARGUMENT, () -> {
            GoldSheets x = new GoldSheets();
            x.section(0, 1, 0);
            x.cut(1, 0);
            x.pass(60);
            return x;
        }, (x, what) -> x.count(what), what -> counts[what]);
    }

    static void promise18EdgeOfTheTrays() {
        for (int trays = 0; trays <= 6; trays++) {
            GoldSheets x = new GoldSheets();
            for (int tray = 0; tray < trays; tray++) {
                Made.put(x, tray, 0, 1);
            }
            Checks.due("count(6) of " + trays, x.count(6), 6 - trays);
            Checks.due("count(5) of " + trays, x.count(5), 0);
            for (int tray = 0; tray < trays; tray++) {
                Made.put(x, tray, 3, 1);
            }
            Checks.due("count(6) of mixed up " + trays, x.count(6), 6 - trays);
            Checks.due("count(5) of mixed up " + trays, x.count(5), trays);
        }
    }

    static void promise18EdgeOfTheSavedStates() {
        GoldSheets x = new GoldSheets();
        for (int calls = 0; calls <= 8; calls++) {
            Checks.due("count(9) of " + calls, x.count(9), Math.min(6, calls));
            x.sweep(0);
        }
    }

    static void promise18EdgeOfTheSections() {
        for (int sections : new int[] {0, 1, 9, 10}) {
            Checks.due("count(1)", Made.withSections(sections).count(1), sections);
        }
    }

    static void promise19EdgeOfTheSettings() {
        int[] first = {50, 120, 0, 2, 30, 10};
        Ranges.hold("setting", 0, 5, NO_INDEX, GoldSheets::new, (x, setting) -> x.setting(setting),
                setting -> first[setting]);
    }

    static void promise19EdgeOfTheValues() {
        int[][] values = {{1, 200}, {10, 500}, {0, 1}, {0, 9}, {1, 99}, {0, 2, 99}};
        for (int setting = 0; setting < 6; setting++) {
            for (int value : values[setting]) {
                GoldSheets x = new GoldSheets();
                x.set(setting, value);
                Checks.due("setting(" + setting + ") as " + value, x.setting(setting), value);
            }
        }
    }
}
