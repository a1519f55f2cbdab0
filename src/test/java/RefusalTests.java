/** The exception that is named first where several apply; the call then changes nothing. */
final class RefusalTests {
    private static final Class<IndexOutOfBoundsException> NO_INDEX = IndexOutOfBoundsException.class;
    private static final Class<IllegalArgumentException> NO_ARGUMENT = IllegalArgumentException.class;
    private static final Class<IllegalStateException> NO_STATE = IllegalStateException.class;
    private static final String TEN = "1a@0;1a@0;1a@0;1a@0;1a@0;1a@0;1a@0;1a@0;1a@0;1a@0";

    private RefusalTests() {
    }

    /** 999 sheets of tone 2, more than six calls to undo. */
    private static GoldSheets withFullStore() {
        return Made.withSheets(2, 999);
    }

    /** Cubes, saved states, ten sections and a text. */
    private static GoldSheets withTenSections(String text) {
        GoldSheets x = Made.withSections(10);
        x.cut(1, 3);
        x.cut(2, 3);
        x.pass(1);
        Looks.type(x, text);
        return x;
    }

    private static GoldSheets withTenSections() {
        return withTenSections("7b@7");
    }

    static void promise02EdgeOfTwoExceptions() {
        for (int tone : new int[] {-1, 4}) {
            for (int sheets : new int[] {0, 1, 99, 100}) {
                Twins.refuse(RefusalTests::withFullStore, NO_INDEX, "store(" + tone + ", " + sheets + ")",
                        x -> x.store(tone, sheets));
            }
        }
        for (int sheets : new int[] {-1, 0, 100, 101, Integer.MAX_VALUE}) {
            Twins.refuse(RefusalTests::withFullStore, NO_ARGUMENT, "store(2, " + sheets + ")",
                    x -> x.store(2, sheets));
        }
        Twins.refuse(RefusalTests::withFullStore, NO_STATE, "store(2, 99)", x -> x.store(2, 99));
    }

    static void promise03EdgeOfTwoExceptions() {
        int[][] tonesAndTrays = {{0, -1}, {0, 6}, {-1, 0}, {4, 5}, {-1, -1}, {4, 6}};
        for (int[] row : tonesAndTrays) {
            Twins.refuse(() -> Made.withoutSheets(0), NO_INDEX, "cut(" + row[0] + ", " + row[1] + ")",
                    x -> x.cut(row[0], row[1]));
        }
        for (int t = 0; t < 6; t++) {
            int tray = t;
            Twins.refuse(() -> Made.withoutSheets(0), NO_STATE, "cut(0, " + tray + ")", x -> x.cut(0, tray));
        }
    }

    static void promise04EdgeOfTwoExceptions() {
        int[][] trays = {{-1, -1}, {6, 6}, {-1, 6}, {6, -1}, {0, 6}, {6, 0}, {5, -1}, {-1, 5}};
        for (int[] row : trays) {
            Twins.refuse(RefusalTests::withTenSections, NO_INDEX, "tip(" + row[0] + ", " + row[1] + ")",
                    x -> x.tip(row[0], row[1]));
        }
        Twins.refuse(RefusalTests::withTenSections, NO_ARGUMENT, "tip(3, 3)", x -> x.tip(3, 3));
        Twins.refuse(RefusalTests::withTenSections, NO_ARGUMENT, "tip(5, 5)", x -> x.tip(5, 5));
    }

    static void promise05EdgeOfARefusedCall() {
        Twins.refuse(RefusalTests::withTenSections, NO_INDEX, "sweep(-1)", x -> x.sweep(-1));
        Twins.refuse(RefusalTests::withTenSections, NO_INDEX, "sweep(6)", x -> x.sweep(6));
    }

    static void promise06EdgeOfThreeExceptions() {
        int[][] withoutATone = {{-1, 1, 0}, {4, 1, 0}, {4, 0, 0}, {-1, 501, 1000}, {4, 1, -1}};
        int[][] outOfRange = {{0, 0, 0}, {3, 501, 999}, {0, 1, -1}, {3, 500, 1000}, {0, 0, -1}};
        for (int[] row : withoutATone) {
            Twins.refuse(RefusalTests::withTenSections, NO_INDEX, "section of ten",
                    x -> x.section(row[0], row[1], row[2]));
            Twins.refuse(GoldSheets::new, NO_INDEX, "section", x -> x.section(row[0], row[1], row[2]));
        }
        for (int[] row : outOfRange) {
            Twins.refuse(RefusalTests::withTenSections, NO_ARGUMENT, "section of ten",
                    x -> x.section(row[0], row[1], row[2]));
            Twins.refuse(GoldSheets::new, NO_ARGUMENT, "section", x -> x.section(row[0], row[1], row[2]));
        }
        Twins.refuse(RefusalTests::withTenSections, NO_STATE, "section(0, 1, 0)", x -> x.section(0, 1, 0));
        Twins.refuse(RefusalTests::withTenSections, NO_STATE, "section(3, 500, 999)", x -> x.section(3, 500, 999));
    }

    static void promise07EdgeOfARefusedCall() {
        for (int number : new int[] {Integer.MIN_VALUE, -1, 10, Integer.MAX_VALUE}) {
            Twins.refuse(RefusalTests::withTenSections, NO_INDEX, "drop(" + number + ")", x -> x.drop(number));
        }
    }

    static void promise08EdgeOfTwoExceptions() {
        int[][] settingsAndValues = {{-1, -1}, {6, -1}, {-1, 1}, {6, 10000}, {6, 2}, {Integer.MAX_VALUE, 0}};
        for (int[] row : settingsAndValues) {
            Twins.refuse(RefusalTests::withTenSections, NO_INDEX, "set(" + row[0] + ", " + row[1] + ")",
                    x -> x.set(row[0], row[1]));
        }
        Twins.refuse(RefusalTests::withTenSections, NO_ARGUMENT, "set(2, 2)", x -> x.set(2, 2));
        Twins.refuse(RefusalTests::withTenSections, NO_ARGUMENT, "set(5, 1)", x -> x.set(5, 1));
    }

    static void promise09EdgeOfTwoExceptions() {
        for (int days : new int[] {Integer.MIN_VALUE, -1, 0, 61, Integer.MAX_VALUE}) {
            Twins.refuse(() -> Made.onDay(9999), NO_ARGUMENT, "pass(" + days + ") on day 9999", x -> x.pass(days));
            Twins.refuse(RefusalTests::withTenSections, NO_ARGUMENT, "pass(" + days + ")", x -> x.pass(days));
        }
        Twins.refuse(() -> Made.onDay(9999), NO_STATE, "pass(1) on day 9999", x -> x.pass(1));
        Twins.refuse(() -> Made.onDay(9940), NO_STATE, "pass(60) on day 9940", x -> x.pass(60));
    }

    static void promise10EdgeOfTwoExceptions() {
        for (int code : new int[] {Integer.MIN_VALUE, -1, 0, 32, 127, 65536 + 49, Integer.MAX_VALUE}) {
            Twins.refuse(Made.text("9".repeat(60)), NO_ARGUMENT, "append(" + code + ") to 60", x -> x.append(code));
            Twins.refuse(Made.text("9"), NO_ARGUMENT, "append(" + code + ")", x -> x.append(code));
        }
        Twins.refuse(Made.text("9".repeat(60)), NO_STATE, "append(57) to 60", x -> x.append(57));
    }

    static void promise13EdgeOfTwoExceptions() {
        for (String text : new String[] {"", "1a@0;", "1a@", "501a@0", "1a@0;".repeat(12), TEN + ";1", "!"}) {
            Twins.refuse(() -> withTenSections(text), NO_ARGUMENT, "addAll() of ten and " + text, GoldSheets::addAll);
        }
        Twins.refuse(() -> withTenSections("1a@0"), NO_STATE, "addAll() of ten and one", GoldSheets::addAll);
        Twins.refuse(() -> withTenSections(TEN), NO_STATE, "addAll() of ten and ten", GoldSheets::addAll);
        Twins.refuse(Made.text(TEN + ";1a@0"), NO_STATE, "addAll() of eleven", GoldSheets::addAll);
    }

    static void promise14EdgeOfARefusedCall() {
        Twins.refuse(() -> {
            GoldSheets x = Looks.withText("5a@5");
            x.cut(0, 0);
            x.undo();
            return x;
        }, NO_STATE, "undo() behind undo", GoldSheets::undo);
    }

    static void promise15EdgeOfARefusedCall() {
        int[][] traysAndTones = {{-1, 0}, {6, 0}, {-1, -1}, {6, -1}, {0, -2}, {5, 4}, {6, 4}, {-1, -2}};
        for (int[] row : traysAndTones) {
            Twins.refuse(RefusalTests::withTenSections, NO_INDEX, "tray(" + row[0] + ", " + row[1] + ")",
                    x -> x.tray(row[0], row[1]));
        }
    }

    static void promise16EdgeOfARefusedCall() {
        int[][] placesAndWhats = {{-1, 0}, {-1, 5}, {-1, 6}, {0, -1}, {9, 6}, {10, 6}, {10, -1}, {-1, -1}};
        for (int[] row : placesAndWhats) {
            Twins.refuse(RefusalTests::withTenSections, NO_ARGUMENT, "sectionOf(" + row[0] + ", " + row[1] + ")",
                    x -> x.sectionOf(row[0], row[1]));
        }
    }

    static void promise17EdgeOfTwoExceptions() {
        int[][] tonesAndWhats = {{-1, -1}, {4, 7}, {-1, 0}, {4, 6}, {-1, 7}, {4, -1}};
        for (int[] row : tonesAndWhats) {
            Twins.refuse(RefusalTests::withTenSections, NO_INDEX, "tone(" + row[0] + ", " + row[1] + ")",
                    x -> x.tone(row[0], row[1]));
        }
        Twins.refuse(RefusalTests::withTenSections, NO_ARGUMENT, "tone(0, -1)", x -> x.tone(0, -1));
        Twins.refuse(RefusalTests::withTenSections, NO_ARGUMENT, "tone(3, 7)", x -> x.tone(3, 7));
    }

    static void promise18EdgeOfARefusedCall() {
        Twins.refuse(RefusalTests::withTenSections, NO_ARGUMENT, "count(-1)", x -> x.count(-1));
        Twins.refuse(RefusalTests::withTenSections, NO_ARGUMENT, "count(10)", x -> x.count(10));
    }

    static void promise19EdgeOfARefusedCall() {
        Twins.refuse(RefusalTests::withTenSections, NO_INDEX, "setting(-1)", x -> x.setting(-1));
        Twins.refuse(RefusalTests::withTenSections, NO_INDEX, "setting(6)", x -> x.setting(6));
    }

    static void promise20EdgeOfARefusedCall() {
        Twins.refuse(RefusalTests::withTenSections, NO_ARGUMENT, "taken(0)", x -> x.taken(0));
        Twins.refuse(RefusalTests::withTenSections, NO_ARGUMENT, "taken(501)", x -> x.taken(501));
    }

    static void promise21EdgeOfARefusedCall() {
        Twins.refuse(RefusalTests::withTenSections, NO_INDEX, "missing(-1)", x -> x.missing(-1));
        Twins.refuse(RefusalTests::withTenSections, NO_INDEX, "missing(4)", x -> x.missing(4));
    }

    static void promise22EdgeOfARefusedCall() {
        int[][] daysAndWhats = {{0, 0}, {61, 3}, {1, -1}, {60, 4}, {0, -1}, {61, 4}, {-1, 2}};
        for (int[] row : daysAndWhats) {
            Twins.refuse(RefusalTests::withTenSections, NO_ARGUMENT, "ifPassed(" + row[0] + ", " + row[1] + ")",
                    x -> x.ifPassed(row[0], row[1]));
        }
    }

    static void promise23EdgeOfARefusedCall() {
        for (int number : new int[] {Integer.MIN_VALUE, -1, 10, Integer.MAX_VALUE}) {
            Twins.refuse(RefusalTests::withTenSections, NO_INDEX, "doneIn(" + number + ")", x -> x.doneIn(number));
        }
    }

    static void promise24EdgeOfARefusedCall() {
        for (int days : new int[] {Integer.MIN_VALUE, -1, 0, 31, 60, Integer.MAX_VALUE}) {
            Twins.refuse(RefusalTests::withTenSections, NO_ARGUMENT, "bestOrder(" + days + ")",
                    x -> x.bestOrder(days));
        }
    }
}
