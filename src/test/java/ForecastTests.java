/** Promises 20 to 26: taken, missing, ifPassed, doneIn, bestOrder, laidShare, digest. */
final class ForecastTests {
    private static final Class<IndexOutOfBoundsException> NO_INDEX = IndexOutOfBoundsException.class;
    private static final Class<IllegalArgumentException> NO_ARGUMENT = IllegalArgumentException.class;

    private ForecastTests() {
    }

    private static int leastTaken(int cubes, int breaks) {
        int n = 0;
        while (n - (breaks == 0 ? 0 : n / breaks) < cubes) {
            n++;
        }
        return n;
    }

    static void promise20TakenOfAllCubesAndSettings() {
        for (int breaks = 0; breaks <= 99; breaks++) {
            if (breaks == 1) {
                continue;
            }
            GoldSheets x = new GoldSheets();
            x.set(5, breaks);
            for (int cubes = 1; cubes <= 500; cubes++) {
                Checks.due("taken(" + cubes + ") with " + breaks, x.taken(cubes), leastTaken(cubes, breaks));
            }
        }
    }

    static void promise20TakenRefuses() {
        GoldSheets x = new GoldSheets();
        Checks.refuses(x, NO_ARGUMENT, "taken(0)", () -> x.taken(0));
        Checks.refuses(x, NO_ARGUMENT, "taken(501)", () -> x.taken(501));
        Checks.refuses(x, NO_ARGUMENT, "taken(-9)", () -> x.taken(-9));
    }

    static void promise21Missing() {
        GoldSheets x = new GoldSheets();
        Checks.due("missing(0)", x.missing(0), 0);
        x.section(0, 225, 9);
        // taken(225) is 249, and 5 sheets give 250
        Checks.due("missing(0) of 249", x.missing(0), 0);
        x.section(0, 1, 9);
        Checks.due("missing(0) of 250", x.missing(0), 0);
        x.section(0, 1, 9);
        Checks.due("missing(0) of 251", x.missing(0), 1);
        x.section(0, 49, 9);
        // taken() of each: 249 + 1 + 1 + 54, not taken(276) = 306
        Checks.due("missing(0) of 305", x.missing(0), 2);
        x.section(1, 500, 9);
        Checks.due("missing(1)", x.missing(1), 7);
        x.cut(1, 0);
        x.cut(2, 0);
        Checks.due("missing(1) with a mixed up tray", x.missing(1), 7);
        x.cut(1, 0);
        Checks.due("missing(1) with 30 swept", x.missing(1), 7);
        x.set(0, 1);
        Checks.due("missing(1) with small sheets", x.missing(1), 555 - 70 - 3);
        Checks.due("missing(2)", x.missing(2), 0);
        Checks.refuses(x, NO_INDEX, "missing(4)", () -> x.missing(4));
        Checks.refuses(x, NO_INDEX, "missing(-1)", () -> x.missing(-1));
    }

    static void promise21MissingIsTheSumOfEach() {
        GoldSheets x = new GoldSheets();
        x.set(0, 1);
        x.set(5, 2);
        x.section(0, 2, 9);
        x.section(0, 2, 9);
        // taken(2) is 3, twice; taken(4) would be 7
        Checks.due("missing(0)", x.missing(0), 1);
    }

    static void promise22IfPassed() {
        GoldSheets x = new GoldSheets();
        x.section(0, 40, 0);
        x.section(0, 40, 1);
        x.section(0, 40, 9);
        x.cut(0, 0);
        x.cut(0, 0);
        x.cut(0, 1);
        x.pass(1);
        String before = Looks.of(x);
        int[] one = {40, 1, 0, 4};
        int[] two = {80, 2, 0, 8};
        for (int what = 0; what <= 3; what++) {
            Checks.due("ifPassed(1, " + what + ")", x.ifPassed(1, what), one[what]);
            Checks.due("ifPassed(2, " + what + ")", x.ifPassed(2, what), two[what]);
        }
        Checks.holds("nothing is changed", Looks.of(x).equals(before));
        x.drop(1);
        x.section(0, 5, 0);
        Checks.due("ifPassed(60, 2)", x.ifPassed(60, 2), 1);
        Checks.refuses(x, NO_ARGUMENT, "ifPassed(0, 0)", () -> x.ifPassed(0, 0));
        Checks.refuses(x, NO_ARGUMENT, "ifPassed(61, 0)", () -> x.ifPassed(61, 0));
        Checks.refuses(x, NO_ARGUMENT, "ifPassed(1, -1)", () -> x.ifPassed(1, -1));
        Checks.refuses(x, NO_ARGUMENT, "ifPassed(1, 4)", () -> x.ifPassed(1, 4));
    }

    static void promise22OnlyWhatTheDaysBring() {
        GoldSheets x = new GoldSheets();
        x.set(3, 1);
        x.section(0, 5, 0);
        x.section(0, 10, 0);
        x.pass(4);
        x.cut(0, 0);
        x.pass(1);
        Checks.due("count(4)", x.count(4), 4);
        // the other one will be done on day 5, and one of 11 cubes breaks
        int[] brings = {10, 1, 5, 1};
        for (int what = 0; what <= 3; what++) {
            Checks.due("ifPassed(2, " + what + ")", x.ifPassed(2, what), brings[what]);
        }
    }

    static void promise22TheLastDayDoesNotMatter() {
        GoldSheets x = new GoldSheets();
        for (int time = 0; time < 167; time++) {
            x.pass(time == 166 ? 39 : 60);
        }
        x.section(3, 60, 999);
        x.cut(3, 0);
        x.cut(3, 1);
        x.set(3, 1);
        Checks.due("ifPassed(60, 0)", x.ifPassed(60, 0), 60);
        Checks.due("ifPassed(60, 2)", x.ifPassed(60, 2), 10001 - 999);
        Checks.due("doneIn(0)", x.doneIn(0), 3);
        Checks.due("bestOrder(30)", x.bestOrder(30), 0);
    }

    static void promise23DoneIn() {
        GoldSheets x = new GoldSheets();
        x.set(3, 1);
        x.set(4, 1);
        x.set(5, 0);
        x.section(0, 60, 0);
        x.section(1, 1, 1);
        x.section(2, 5, 999);
        x.cut(0, 0);
        x.cut(0, 0);
        x.cut(1, 1);
        String before = Looks.of(x);
        Checks.due("doneIn(0)", x.doneIn(0), 60);
        Checks.due("doneIn(1)", x.doneIn(1), -1);
        Checks.due("doneIn(2)", x.doneIn(2), -1);
        Checks.holds("nothing is changed", Looks.of(x).equals(before));
        x.pass(1);
        Checks.due("doneIn(0) then", x.doneIn(0), 59);
        Checks.due("doneIn(1) then", x.doneIn(1), 60);
        x.pass(59);
        Checks.refuses(x, NO_INDEX, "doneIn(0) when done", () -> x.doneIn(0));
        Checks.due("doneIn(1) at last", x.doneIn(1), 1);
        Checks.refuses(x, NO_INDEX, "doneIn(-1)", () -> x.doneIn(-1));
        Checks.refuses(x, NO_INDEX, "doneIn(3)", () -> x.doneIn(3));
    }

    /** One setter who lays 10 a day: by day the long one comes first, by cubes the short ones. */
    private static GoldSheets longOrShort() {
        GoldSheets x = new GoldSheets();
        x.set(3, 1);
        x.set(4, 10);
        x.set(5, 0);
        x.section(0, 100, 0);
        x.section(0, 10, 5);
        x.section(0, 10, 6);
        x.cut(0, 0);
        x.cut(0, 1);
        x.cut(0, 2);
        return x;
    }

    static void promise24BestOrderByDone() {
        GoldSheets x = longOrShort();
        String before = Looks.of(x);
        Checks.due("bestOrder(1)", x.bestOrder(1), 1);
        Checks.due("bestOrder(9)", x.bestOrder(9), 1);
        Checks.holds("nothing is changed", Looks.of(x).equals(before));
        x.set(2, 1);
        Checks.due("bestOrder(9) in the other order", x.bestOrder(9), 1);
        GoldSheets y = new GoldSheets();
        y.set(3, 1);
        y.section(0, 9, 0);
        y.section(1, 8, 9);
        y.section(1, 500, 10);
        y.cut(0, 0);
        y.set(2, 1);
        Checks.due("bestOrder(1) alike", y.bestOrder(1), 0);
    }

    static void promise24BestOrderByLateDays() {
        GoldSheets x = longOrShort();
        // all are done behind 12 days: by day 9, 5 and 5 days late, by cubes 11 and none
        Checks.due("ifPassed(12, 1)", x.ifPassed(12, 1), 3);
        Checks.due("ifPassed(12, 2)", x.ifPassed(12, 2), 19);
        Checks.due("bestOrder(12)", x.bestOrder(12), 1);
        GoldSheets y = new GoldSheets();
        y.set(3, 1);
        y.set(4, 10);
        y.set(5, 0);
        y.section(0, 20, 1);
        y.section(0, 10, 2);
        y.cut(0, 0);
        // by day in time, by cubes the first one a day late
        Checks.due("bestOrder(3)", y.bestOrder(3), 0);
        Checks.due("bestOrder(1)", y.bestOrder(1), 1);
        Checks.due("bestOrder(2)", y.bestOrder(2), 0);
    }

    static void promise24BestOrderByDoneIsByDay() {
        GoldSheets x = new GoldSheets();
        x.set(3, 1);
        x.set(4, 10);
        x.set(5, 0);
        x.set(0, 10);
        x.section(0, 11, 9);
        x.section(1, 12, 0);
        x.cut(0, 0);
        x.cut(1, 1);
        x.cut(1, 1);
        // by cubes the first day goes to a section that cannot be done
        Checks.due("bestOrder(2)", x.bestOrder(2), 0);
        x.set(2, 1);
        Checks.due("ifPassed(2, 1) by cubes", x.ifPassed(2, 1), 0);
        Checks.due("bestOrder(2) from the other order", x.bestOrder(2), 0);
    }

    static void promise24BestOrderRefuses() {
        GoldSheets x = new GoldSheets();
        Checks.due("bestOrder(1)", x.bestOrder(1), 0);
        Checks.due("bestOrder(30)", x.bestOrder(30), 0);
        Checks.refuses(x, NO_ARGUMENT, "bestOrder(0)", () -> x.bestOrder(0));
        Checks.refuses(x, NO_ARGUMENT, "bestOrder(31)", () -> x.bestOrder(31));
    }

    static void promise25LaidShare() {
        GoldSheets x = new GoldSheets();
        Checks.dueShare("laidShare() without cubes", x.laidShare(), 1.0);
        x.cut(0, 0);
        Checks.dueShare("laidShare() of none", x.laidShare(), 0.0);
        x.section(0, 20, 9);
        x.section(1, 500, 9);
        x.cut(1, 1);
        x.cut(1, 1);
        x.pass(1);
        // 20 of a section that is done, and 27 of the other
        Checks.dueShare("laidShare()", x.laidShare(), 47.0 / 150.0);
        x.drop(1);
        Checks.dueShare("laidShare() behind drop", x.laidShare(), 20.0 / 150.0);
        GoldSheets y = new GoldSheets();
        y.set(5, 0);
        y.set(0, 30);
        y.section(2, 30, 9);
        y.cut(2, 0);
        y.pass(1);
        Checks.dueShare("laidShare() of all", y.laidShare(), 1.0);
    }

    static void promise25LaidShareOfOneCube() {
        GoldSheets x = new GoldSheets();
        x.set(0, 1);
        x.cut(0, 0);
        Checks.dueShare("laidShare()", x.laidShare(), 0.0);
    }

    static void promise26Digest() {
        Checks.due("digest() of a new object", new GoldSheets().digest(), Digests.of(new GoldSheets(), ""));
        for (int day = 0; day < 14; day++) {
            GoldSheets x = longOrShort();
            x.cut(3, 0);
            x.cut(2, 4);
            Looks.type(x, "9a@5;");
            Made.passTo(x, day);
            Checks.due("digest() on day " + day, x.digest(), Digests.of(x, "9a@5;"));
            Checks.due("digest() again", x.digest(), Digests.of(x, "9a@5;"));
            x.clearBuffer();
            Checks.due("digest() without a text", x.digest(), Digests.of(x, ""));
        }
    }
}
