import java.util.function.Supplier;

/** Objects that are brought to a boundary of the document. */
final class Made {
    static final int LAST_DAY = 9999;
    private static final int MOST_DAYS = 60;
    private static final int MOST_SHEETS_AT_ONCE = 99;

    private Made() {
    }

    /** The store has so many sheets of the tone, at least 5. */
    static GoldSheets withSheets(int tone, int sheets) {
        GoldSheets x = new GoldSheets();
        while (x.tone(tone, 0) < sheets) {
            x.store(tone, Math.min(MOST_SHEETS_AT_ONCE, sheets - x.tone(tone, 0)));
        }
        return x;
    }

    /** The store has no sheet of the tone, and the trays are empty. */
    static GoldSheets withoutSheets(int tone) {
        GoldSheets x = new GoldSheets();
        while (x.tone(tone, 0) > 0) {
            x.cut(tone, 0);
        }
        x.sweep(0);
        return x;
    }

    /** Puts 1 to 200 cubes into a tray, also above its room; the store and the settings stay. */
    static void put(GoldSheets x, int tray, int tone, int cubes) {
        int size = x.setting(0);
        int room = x.setting(1);
        x.set(0, cubes);
        x.set(1, 500);
        x.store(tone, 1);
        x.cut(tone, tray);
        x.set(0, size);
        x.set(1, room);
    }

    static GoldSheets withCubes(int tray, int tone, int cubes) {
        GoldSheets x = new GoldSheets();
        put(x, tray, tone, cubes);
        return x;
    }

    /** Sections of tone 0 that want 1 cube by day 0. */
    static GoldSheets withSections(int sections) {
        GoldSheets x = new GoldSheets();
        for (int number = 0; number < sections; number++) {
            x.section(0, 1, 0);
        }
        return x;
    }

    static void passTo(GoldSheets x, int day) {
        while (x.count(0) < day) {
            x.pass(Math.min(MOST_DAYS, day - x.count(0)));
        }
    }

    static GoldSheets onDay(int day) {
        GoldSheets x = new GoldSheets();
        // Two calls for each pass would be too many for day 9999 and what follows it.
        for (int time = 0; time < day / MOST_DAYS; time++) {
            x.pass(MOST_DAYS);
        }
        passTo(x, day);
        return x;
    }

    static Supplier<GoldSheets> text(String text) {
        return () -> Looks.withText(text);
    }

    /** One setter lays a cube a day, and none breaks. */
    static GoldSheets oneCubeADay() {
        GoldSheets x = new GoldSheets();
        x.set(3, 1);
        x.set(4, 1);
        x.set(5, 0);
        return x;
    }
}
