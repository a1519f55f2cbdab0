/** The edges of promises 20 to 24: taken, missing, ifPassed, doneIn, bestOrder. */
final class ForecastEdges {
    private static final Class<IndexOutOfBoundsException> NO_INDEX = IndexOutOfBoundsException.class;
    private static final Class<IllegalArgumentException> NO_ARGUMENT = IllegalArgumentException.class;

    private ForecastEdges() {
    }

    static void promise20EdgeOfTheCubes() {
        int[] breaks = {0, 2, 3, 10, 98, 99};
        int[] whole = {0, 1, 2, 9, 97, 98};
        for (int row = 0; row < breaks.length; row++) {
            int setting = breaks[row];
            int comeOfEach = whole[row];
            Ranges.hold("taken with " + setting + " of", 1, 500, NO_ARGUMENT, () -> {
                GoldSheets x = new GoldSheets();
                x.set(5, setting);
                return x;
            }, (x, cubes) -> x.taken(cubes), cubes -> setting == 0 ? cubes : cubes + (cubes - 1) / comeOfEach);
        }
    }

    static void promise20EdgeOfTheCubeThatBreaks() {
        int[][] settingCubesAndTaken = {{10, 8, 8}, {10, 9, 9}, {10, 10, 11}, {10, 18, 19}, {10, 19, 21},
            {2, 1, 1}, {2, 2, 3}, {2, 3, 5}, {2, 500, 999}, {99, 98, 98}, {99, 99, 100}, {99, 196, 197},
            {99, 197, 199}, {0, 1, 1}, {0, 500, 500}};
        for (int[] row : settingCubesAndTaken) {
            GoldSheets x = new GoldSheets();
            x.set(5, row[0]);
            Checks.due("taken(" + row[1] + ") with " + row[0], x.taken(row[1]), row[2]);
        }
    }

    static void promise21EdgeOfTheTones() {
        Ranges.hold("missing of tone", 0, 3, NO_INDEX, () -> {
            GoldSheets x = new GoldSheets();
            x.set(5, 0);
            for (int tone = 0; tone < 4; tone++) {
                x.section(tone, 250 + 50 * tone, 0);
            }
            return x;
        }, (x, tone) -> x.missing(tone), tone -> tone);
    }

    private static void lacks(GoldSheets x, int breaks, int wanted, int due) {
        x.set(5, breaks);
        x.section(1, wanted, 0);
        Checks.due("missing(1) of " + wanted + " with " + breaks, x.missing(1), due);
        Checks.due("missing(0)", x.missing(0), 0);
    }

    static void promise21EdgeOfTheSheets() {
        int[][] wantedAndDue = {{1, 0}, {249, 0}, {250, 0}, {251, 1}, {299, 1}, {300, 1}, {301, 2}, {500, 5}};
        for (int[] row : wantedAndDue) {
            lacks(new GoldSheets(), 0, row[0], row[1]);
            GoldSheets cut = new GoldSheets();
            cut.cut(1, 0);
            cut.cut(0, 0);
            lacks(cut, 0, row[0], row[1]);
        }
        lacks(new GoldSheets(), 10, 225, 0);
        lacks(new GoldSheets(), 10, 226, 1);
        lacks(new GoldSheets(), 10, 270, 1);
        lacks(new GoldSheets(), 10, 271, 2);
    }

    static void promise21EdgeOfAStoreWithoutASheet() {
        Checks.due("missing(1) without a section", Made.withoutSheets(1).missing(1), 0);
        int[][] wantedAndDue = {{1, 1}, {49, 1}, {50, 1}, {51, 2}, {100, 2}, {101, 3}};
        for (int[] row : wantedAndDue) {
            lacks(Made.withoutSheets(1), 0, row[0], row[1]);
            GoldSheets x = Made.withoutSheets(1);
            Made.put(x, 0, 1, 50);
            lacks(x, 0, row[0], row[1] - 1);
        }
    }

    static void promise21EdgeOfTheMost() {
        lacks(Made.withSheets(1, 999), 2, 500, 0);
        GoldSheets x = new GoldSheets();
        x.set(5, 2);
        for (int number = 0; number < 10; number++) {
            x.section(3, 500, 0);
        }
        // taken(500) is 999, ten times; the store has 5 sheets
        Checks.due("missing(3) of sheets of 50", x.missing(3), 195);
        x.set(0, 1);
        Checks.due("missing(3) of sheets of 1", x.missing(3), 9985);
        x.set(0, 200);
        Checks.due("missing(3) of sheets of 200", x.missing(3), 45);
    }

    /** A section that wants so many cubes by day 0; a cube comes each day, and 200 are there. */
    private static GoldSheets wanting(int cubes) {
        GoldSheets x = Made.oneCubeADay();
        Made.put(x, 0, 0, 200);
        x.section(0, cubes, 0);
        return x;
    }

    static void promise22EdgeOfTheDays() {
        Ranges.hold("ifPassed of days", 1, 60, NO_ARGUMENT, () -> wanting(500),
                (x, days) -> x.ifPassed(days, 0), days -> days);
        GoldSheets x = wanting(60);
        int[][] daysAndDue = {{58, 58, 0, 0}, {59, 59, 0, 0}, {60, 60, 1, 59}};
        for (int[] row : daysAndDue) {
            for (int what = 0; what <= 2; what++) {
                Checks.due("ifPassed(" + row[0] + ", " + what + ")", x.ifPassed(row[0], what), row[1 + what]);
            }
        }
    }

    static void promise22EdgeOfWhat() {
        int[] due = {60, 1, 59, 59};
        Ranges.hold("ifPassed of what", 0, 3, NO_ARGUMENT, () -> {
            GoldSheets x = wanting(60);
            x.set(4, 2);
            x.set(5, 2);
            return x;
        }, (x, what) -> x.ifPassed(60, what), what -> due[what]);
    }

    static void promise22EdgeOfALateSection() {
        int[] lateBy = {2, 1, 0, 0};
        for (int due = 0; due < lateBy.length; due++) {
            GoldSheets x = Made.oneCubeADay();
            Made.put(x, 0, 0, 3);
            x.section(0, 3, due);
            Checks.due("ifPassed(2, 2) by day " + due, x.ifPassed(2, 2), 0);
            Checks.due("ifPassed(3, 2) by day " + due, x.ifPassed(3, 2), lateBy[due]);
            Checks.due("ifPassed(3, 1) by day " + due, x.ifPassed(3, 1), 1);
        }
    }

    /** On the day, a section by day 999 that is done on the third day from then. */
    private static GoldSheets nearTheEnd(int day) {
        GoldSheets x = Made.onDay(day);
        x.set(3, 1);
        x.set(4, 1);
        x.set(5, 0);
        Made.put(x, 0, 0, 90);
        x.section(0, 3, 999);
        x.section(0, 58, 999);
        return x;
    }

    static void promise22EdgeOfDay9999() {
        for (int day = 9996; day <= 9999; day++) {
            GoldSheets x = nearTheEnd(day);
            Checks.due("ifPassed(2, 1) on day " + day, x.ifPassed(2, 1), 0);
            Checks.due("ifPassed(3, 1) on day " + day, x.ifPassed(3, 1), 1);
            Checks.due("ifPassed(3, 2) on day " + day, x.ifPassed(3, 2), day + 2 - 999);
            Checks.due("ifPassed(60, 0) on day " + day, x.ifPassed(60, 0), 60);
            Checks.due("count(0)", x.count(0), day);
        }
    }

    static void promise23EdgeOfDay9999() {
        for (int day = 9996; day <= 9999; day++) {
            GoldSheets x = nearTheEnd(day);
            Checks.due("doneIn(0) on day " + day, x.doneIn(0), 3);
            Checks.due("doneIn(1) on day " + day, x.doneIn(1), GoldSheets.NONE);
            x.drop(0);
            Checks.due("doneIn(1) on day " + day + " then", x.doneIn(1), 58);
            Checks.due("count(0)", x.count(0), day);
        }
    }

    static void promise24EdgeOfDay9999() {
        for (int day = 9996; day <= 9999; day++) {
            GoldSheets x = nearTheEnd(day);
            x.section(0, 1, 1);
            x.section(0, 30, 0);
            // by days the 30 come first, then the one cube; by cubes the one, the 3 and the 30
            Checks.due("bestOrder(1) on day " + day, x.bestOrder(1), 1);
            Checks.due("bestOrder(30) on day " + day, x.bestOrder(30), 1);
            Checks.due("count(0)", x.count(0), day);
        }
    }

    static void promise23EdgeOf60Days() {
        int[][] cubesAndDays = {{1, 1}, {2, 2}, {58, 58}, {59, 59}, {60, 60}, {61, -1}, {62, -1}, {500, -1}};
        for (int[] row : cubesAndDays) {
            GoldSheets x = wanting(row[0]);
            Checks.due("doneIn(0) of " + row[0], x.doneIn(0), row[1]);
        }
        GoldSheets x = wanting(62);
        x.pass(1);
        Checks.due("doneIn(0) of 61 still", x.doneIn(0), GoldSheets.NONE);
        x.pass(1);
        Checks.due("doneIn(0) of 60 still", x.doneIn(0), 60);
        x.pass(59);
        Checks.due("doneIn(0) of 1 still", x.doneIn(0), 1);
        x.set(3, 0);
        Checks.due("doneIn(0) without setters", x.doneIn(0), GoldSheets.NONE);
        x.set(3, 1);
        x.sweep(0);
        Checks.due("doneIn(0) without cubes", x.doneIn(0), GoldSheets.NONE);
    }

    private static GoldSheets tenADayEach() {
        GoldSheets x = Made.oneCubeADay();
        Made.put(x, 0, 0, 200);
        for (int number = 0; number < 10; number++) {
            x.section(0, 6, 0);
        }
        return x;
    }

    static void promise23EdgeOfTheNumbers() {
        Ranges.hold("doneIn of number", 0, 9, NO_INDEX, ForecastEdges::tenADayEach,
                (x, number) -> x.doneIn(number), number -> 6 * (number + 1));
    }

    static void promise23EdgeOfASectionThatIsGone() {
        for (int n = 1; n <= 3; n++) {
            int number = n;
            Twins.refuse(SectionEdges::withSectionsThatAreGone, NO_INDEX, "doneIn(" + number + ")",
                    x -> x.doneIn(number));
        }
        GoldSheets x = SectionEdges.withSectionsThatAreGone();
        Checks.due("doneIn(0)", x.doneIn(0), GoldSheets.NONE);
        Made.put(x, 1, 0, 20);
        Checks.due("doneIn(0) with cubes", x.doneIn(0), 1);
        x.pass(1);
        Checks.refuses(x, NO_INDEX, "doneIn(0) when done", () -> x.doneIn(0));
        x.undo();
        Checks.due("doneIn(0) behind undo", x.doneIn(0), 1);
    }

    static void promise24EdgeOfTheDays() {
        // by days the long section takes all; by cubes the short one is done behind 30 days
        Ranges.hold("bestOrder of days", 1, 30, NO_ARGUMENT, () -> {
            GoldSheets x = wanting(500);
            x.section(0, 30, 1);
            return x;
        }, (x, days) -> x.bestOrder(days), days -> days == 30 ? 1 : 0);
    }

    static void promise24EdgeOfOrdersThatAreAlike() {
        int[][] twoDaysAndBest = {{0, 0, 1}, {0, 1, 0}, {0, 2, 0}, {1, 1, 0}, {1, 2, 0}, {2, 2, 0}};
        for (int[] row : twoDaysAndBest) {
            for (int order = 0; order <= 1; order++) {
                GoldSheets x = Made.oneCubeADay();
                Made.put(x, 0, 0, 50);
                x.set(2, order);
                x.section(0, 2, row[0]);
                x.section(0, 1, row[1]);
                String what = " by " + row[0] + " and " + row[1] + " with setting 2 as " + order;
                Checks.due("bestOrder(3)" + what, x.bestOrder(3), row[2]);
                Checks.due("bestOrder(1)" + what, x.bestOrder(1), 1);
                Checks.due("setting(2)" + what, x.setting(2), order);
            }
        }
    }

    static void promise24EdgeOfNoSectionAndOfOne() {
        for (int order = 0; order <= 1; order++) {
            GoldSheets x = Made.oneCubeADay();
            x.set(2, order);
            Checks.due("bestOrder(1) without a section", x.bestOrder(1), 0);
            Checks.due("bestOrder(30) without a section", x.bestOrder(30), 0);
            x.section(0, 1, 0);
            Checks.due("bestOrder(30) without cubes", x.bestOrder(30), 0);
            Made.put(x, 0, 0, 1);
            Checks.due("bestOrder(30) of one section", x.bestOrder(30), 0);
        }
    }
}
