/** The edges of promise 9: pass, and what is done on a day. */
final class DayEdges {
    private static final Class<IllegalArgumentException> NO_ARGUMENT = IllegalArgumentException.class;
    private static final Class<IllegalStateException> NO_STATE = IllegalStateException.class;

    private DayEdges() {
    }

    static void promise09EdgeOfTheDays() {
        Ranges.hold("pass of days", 1, 60, NO_ARGUMENT, GoldSheets::new, (x, days) -> {
            x.pass(days);
            return x.count(0);
        }, days -> days);
    }

    static void promise09EdgeOfDay9999() {
        int[][] thatPass = {{9939, 59}, {9939, 60}, {9940, 59}, {9997, 1}, {9997, 2}, {9998, 1}};
        for (int[] row : thatPass) {
            GoldSheets x = Made.onDay(row[0]);
            Checks.due("pass(" + row[1] + ") on day " + row[0], x.pass(row[1]), 0);
            Checks.due("count(0)", x.count(0), row[0] + row[1]);
        }
        int[][] thatDoNot = {{9940, 60}, {9941, 60}, {9997, 3}, {9998, 2}, {9999, 1}, {9999, 60}};
        for (int[] row : thatDoNot) {
            Twins.refuse(() -> Made.onDay(row[0]), NO_STATE, "pass(" + row[1] + ") on day " + row[0],
                    x -> x.pass(row[1]));
        }
    }

    static void promise09EdgeOfTheSetters() {
        for (int setters : new int[] {0, 1, 2, 8, 9}) {
            GoldSheets x = Made.withCubes(0, 0, 200);
            x.set(3, setters);
            x.set(4, 10);
            x.set(5, 0);
            x.section(0, 500, 9);
            Checks.due("pass(1) with setters " + setters, x.pass(1), 10 * setters);
            Checks.due("tray(0, 0)", x.tray(0, 0), 200 - 10 * setters);
        }
    }

    static void promise09EdgeOfSettersWhoSort() {
        int[][] laidAndSorted = {{0, 0, 3}, {0, 1, 2}, {0, 2, 1}, {0, 3, 0}, {20, 3, 0}, {40, 3, 0}};
        for (int setters = 0; setters < laidAndSorted.length; setters++) {
            GoldSheets x = new GoldSheets();
            for (int tray = 0; tray < 3; tray++) {
                Made.put(x, tray, 0, 20);
                Made.put(x, tray, 1, 10);
            }
            x.set(3, setters);
            x.set(4, 20);
            x.set(5, 0);
            x.section(0, 500, 9);
            int[] due = laidAndSorted[setters];
            Checks.due("pass(1) with setters " + setters, x.pass(1), due[0]);
            Checks.due("sorted by setters " + setters, x.count(8), due[1]);
            Checks.due("mixed up behind setters " + setters, x.count(5), due[2]);
        }
    }

    private static void layOnce(int setting4, int breaks, int wants, int there, int taken, int come) {
        GoldSheets x = new GoldSheets();
        if (there > 0) {
            Made.put(x, 5, 2, there);
        }
        x.set(3, 1);
        x.set(4, setting4);
        x.set(5, breaks);
        x.section(2, wants, 9);
        String what = "wanted " + wants + ", there " + there + ", setting 4 " + setting4 + ", setting 5 " + breaks;
        Checks.due("pass(1) with " + what, x.pass(1), come);
        Checks.due("what stays with " + what, x.tray(5, 2), there - taken);
        Checks.due("what breaks with " + what, x.count(7), taken - come);
        Checks.due("what is done with " + what, x.count(2), come == wants ? 1 : 0);
        Checks.due("what is still wanted with " + what, x.tone(2, 6), wants - come);
    }

    static void promise09EdgeOfWhatASetterLays() {
        layOnce(30, 0, 29, 200, 29, 29);
        layOnce(30, 0, 30, 200, 30, 30);
        layOnce(30, 0, 31, 200, 30, 30);
        layOnce(30, 10, 26, 200, 28, 26);
        layOnce(30, 10, 27, 200, 29, 27);
        layOnce(30, 10, 28, 200, 30, 27);
        layOnce(1, 0, 1, 200, 1, 1);
        layOnce(1, 2, 2, 200, 1, 1);
        layOnce(2, 2, 2, 200, 2, 1);
        layOnce(3, 2, 2, 200, 3, 2);
        layOnce(98, 0, 500, 200, 98, 98);
        layOnce(99, 0, 500, 200, 99, 99);
    }

    static void promise09EdgeOfWhatIsThere() {
        layOnce(30, 10, 18, 0, 0, 0);
        layOnce(30, 10, 18, 1, 1, 1);
        layOnce(30, 10, 18, 18, 18, 17);
        layOnce(30, 10, 18, 19, 19, 18);
        layOnce(30, 10, 18, 20, 19, 18);
        layOnce(30, 0, 30, 29, 29, 29);
        layOnce(30, 0, 30, 30, 30, 30);
        layOnce(30, 0, 30, 31, 30, 30);
    }

    static void promise09EdgeOfWhatBreaks() {
        int[][] takenAndCome = {{1, 1}, {8, 8}, {9, 9}, {10, 9}, {11, 10}, {19, 18}, {20, 18}, {21, 19}};
        for (int[] row : takenAndCome) {
            layOnce(row[0], 10, 500, 200, row[0], row[1]);
        }
        layOnce(1, 2, 500, 200, 1, 1);
        layOnce(2, 2, 500, 200, 2, 1);
        layOnce(3, 2, 500, 200, 3, 2);
        layOnce(98, 99, 500, 200, 98, 98);
        layOnce(99, 99, 500, 200, 99, 98);
        layOnce(98, 98, 500, 200, 98, 97);
        layOnce(99, 0, 500, 200, 99, 99);
    }

    static void promise09EdgeOfASectionThatWantsNoMore() {
        GoldSheets x = Made.withCubes(0, 0, 100);
        x.set(5, 0);
        x.section(0, 30, 1);
        x.section(0, 31, 2);
        x.section(0, 1, 3);
        // the second setter lays 30 of 31: none is left for the one cube and for the last section
        Checks.due("pass(1)", x.pass(1), 60);
        Checks.dueText("sections", Looks.sectionsOf(x), "1,0,1,2,30,0 2,0,1,3,0,0");
        Checks.due("pass(1) then", x.pass(1), 2);
        Checks.due("count(1)", x.count(1), 0);
        Checks.due("count(2)", x.count(2), 3);
    }

    static void promise09EdgeOfALateSection() {
        int[] lateBy = {5, 4, 3, 2, 1, 0, 0, 0};
        for (int due = 0; due < lateBy.length; due++) {
            GoldSheets x = new GoldSheets();
            x.section(0, 1, due);
            x.pass(5);
            Made.put(x, 0, 0, 1);
            Checks.due("count(2) by day " + due, x.count(2), 0);
            Checks.due("pass(1) by day " + due, x.pass(1), 1);
            Checks.due("count(2) then", x.count(2), 1);
            Checks.due("count(3) by day " + due, x.count(3), lateBy[due] > 0 ? 1 : 0);
            Checks.due("count(4) by day " + due, x.count(4), lateBy[due]);
        }
    }

    static void promise09EdgeOfTheLastDayOfASection() {
        GoldSheets x = Made.onDay(9998);
        x.section(1, 1, 999);
        Made.put(x, 0, 1, 1);
        Checks.due("pass(1)", x.pass(1), 1);
        Checks.due("count(0)", x.count(0), 9999);
        Checks.due("count(4)", x.count(4), 8999);
    }

    static void promise09EdgeOfEmptyTraysToSortInto() {
        String[] mixed = {"10,10,10,10", "10,0,10,10", "10,0,0,10", "10,0,0,0", "10,0,0,0", "10,0,0,0"};
        for (int empty = 0; empty <= 5; empty++) {
            GoldSheets x = new GoldSheets();
            for (int tray = 0; tray < 5 - empty; tray++) {
                Made.put(x, tray, 3, 7);
            }
            for (int tone = 0; tone < 4; tone++) {
                Made.put(x, 5, tone, 10);
            }
            x.set(3, 1);
            x.pass(1);
            Checks.dueText("the mixed up one with empty trays " + empty, Looks.trayOf(x, 5), mixed[empty]);
            for (int tone = 1; tone <= 3; tone++) {
                int tray = 4 - empty + tone;
                if (tray < 5) {
                    Checks.due("tone " + tone + " with empty trays " + empty, x.tray(tray, tone), 10);
                }
            }
            Checks.due("count(6) with empty trays " + empty, x.count(6), Math.max(0, empty - 3));
            Checks.due("count(8) with empty trays " + empty, x.count(8), 1);
            Checks.due("count(5) with empty trays " + empty, x.count(5), empty < 3 ? 1 : 0);
        }
    }

    static void promise09EdgeOfTheRoomToSortInto() {
        int[][] cubesAndMoved = {{1, 1}, {19, 19}, {20, 20}, {21, 20}, {22, 20}, {59, 20}};
        for (int[] row : cubesAndMoved) {
            GoldSheets x = new GoldSheets();
            Made.put(x, 0, 0, 60);
            Made.put(x, 0, 3, row[0]);
            x.set(1, 20);
            x.set(3, 1);
            x.pass(1);
            Checks.due("tray(1, 3) of " + row[0], x.tray(1, 3), row[1]);
            Checks.due("tray(0, 3) of " + row[0], x.tray(0, 3), row[0] - row[1]);
            Checks.due("tray(0, 0)", x.tray(0, 0), 60);
            Checks.due("tray(2, NONE)", x.tray(2, GoldSheets.NONE), 0);
        }
    }

    static void promise09EdgeOfTheToneOfWhichThereAreMost() {
        int[][] twoTonesAndKept = {{10, 9, 1}, {10, 10, 1}, {10, 11, 2}, {1, 1, 1}, {1, 2, 2}};
        for (int[] row : twoTonesAndKept) {
            GoldSheets x = new GoldSheets();
            Made.put(x, 4, 1, row[0]);
            Made.put(x, 4, 2, row[1]);
            x.pass(1);
            int goes = 3 - row[2];
            Checks.due("kept of " + row[0] + " and " + row[1], x.tray(4, row[2]), row[row[2] - 1]);
            Checks.due("that goes of " + row[0] + " and " + row[1], x.tray(0, goes), row[goes - 1]);
            Checks.due("tray(4, " + goes + ")", x.tray(4, goes), 0);
        }
    }

    static void promise09EdgeOfATrayWithOneTone() {
        GoldSheets x = Made.withCubes(2, 3, 1);
        x.pass(1);
        Checks.due("count(8) of one tone", x.count(8), 0);
        Made.put(x, 2, 0, 1);
        x.pass(1);
        Checks.due("count(8) of two tones", x.count(8), 1);
        Checks.dueText("tray 2", Looks.trayOf(x, 2), "1,0,0,0");
        Checks.dueText("tray 0", Looks.trayOf(x, 0), "0,0,0,1");
        x.pass(1);
        Checks.due("count(8) then", x.count(8), 1);
    }

    static void promise09EdgeOfMixedUpTraysOfWhichNoCubeIsTaken() {
        GoldSheets x = Made.withCubes(0, 1, 30);
        Made.put(x, 0, 2, 31);
        x.section(1, 5, 9);
        x.set(3, 0);
        Checks.due("pass(1) without setters", x.pass(1), 0);
        x.set(3, 1);
        Checks.due("pass(1) with one who sorts", x.pass(1), 0);
        Checks.due("tray(1, 1)", x.tray(1, 1), 30);
        Checks.due("pass(1) with one who lays", x.pass(1), 5);
    }
}
