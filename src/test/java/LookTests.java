/** Promises 15 to 19: tray, sectionOf, tone, count, setting. */
final class LookTests {
    private static final Class<IndexOutOfBoundsException> NO_INDEX = IndexOutOfBoundsException.class;
    private static final Class<IllegalArgumentException> NO_ARGUMENT = IllegalArgumentException.class;

    private LookTests() {
    }

    /** Two mixed up trays, one of them with tone 2 and 3, and one pure one. */
    private static GoldSheets mixedUp() {
        GoldSheets x = new GoldSheets();
        x.cut(0, 0);
        x.cut(1, 0);
        x.cut(2, 3);
        x.cut(3, 3);
        x.cut(0, 5);
        return x;
    }

    static void promise15Tray() {
        GoldSheets x = mixedUp();
        Checks.due("tray(0, 0)", x.tray(0, 0), 50);
        Checks.due("tray(0, 1)", x.tray(0, 1), 50);
        Checks.due("tray(0, 2)", x.tray(0, 2), 0);
        Checks.due("tray(0, NONE)", x.tray(0, GoldSheets.NONE), 100);
        Checks.due("tray(3, 3)", x.tray(3, 3), 50);
        Checks.due("tray(5, NONE)", x.tray(5, GoldSheets.NONE), 50);
        Checks.due("tray(4, NONE)", x.tray(4, GoldSheets.NONE), 0);
        Checks.refuses(x, NO_INDEX, "tray(6, 0)", () -> x.tray(6, 0));
        Checks.refuses(x, NO_INDEX, "tray(6, NONE)", () -> x.tray(6, -1));
        Checks.refuses(x, NO_INDEX, "tray(-1, 0)", () -> x.tray(-1, 0));
        Checks.refuses(x, NO_INDEX, "tray(0, 4)", () -> x.tray(0, 4));
        Checks.refuses(x, NO_INDEX, "tray(0, -2)", () -> x.tray(0, -2));
    }

    static void promise16SectionOf() {
        GoldSheets x = mixedUp();
        x.section(0, 100, 1);
        x.section(3, 7, 0);
        x.set(3, 4);
        Checks.holds("on day 0", Looks.sectionsOf(x).equals("1,3,7,0,0,0 0,0,100,1,0,0"));
        x.pass(1);
        Checks.holds("on day 1", Looks.sectionsOf(x).equals("0,0,73,1,27,0"));
        x.set(3, 0);
        x.pass(1);
        Checks.holds("on day 2", Looks.sectionsOf(x).equals("0,0,73,1,27,1"));
        Checks.due("sectionOf(1, 0)", x.sectionOf(1, 0), -1);
        Checks.due("sectionOf(1, 5)", x.sectionOf(1, 5), -1);
        Checks.due("sectionOf(most, 3)", x.sectionOf(Integer.MAX_VALUE, 3), -1);
    }

    static void promise16SectionOfRefuses() {
        GoldSheets x = new GoldSheets();
        Checks.refuses(x, NO_ARGUMENT, "sectionOf(-1, 0)", () -> x.sectionOf(-1, 0));
        Checks.refuses(x, NO_ARGUMENT, "sectionOf(0, -1)", () -> x.sectionOf(0, -1));
        Checks.refuses(x, NO_ARGUMENT, "sectionOf(99, 6)", () -> x.sectionOf(99, 6));
        x.section(0, 1, 1);
        Checks.refuses(x, NO_ARGUMENT, "sectionOf(0, 6)", () -> x.sectionOf(0, 6));
    }

    static void promise17Tone() {
        GoldSheets x = mixedUp();
        x.section(0, 20, 9);
        x.section(0, 500, 9);
        x.section(2, 60, 9);
        x.section(0, 8, 9);
        x.set(3, 4);
        Checks.holds("tone 0", Looks.toneOf(x, 0).equals("3,100,50,100,0,0,528"));
        Checks.holds("tone 1", Looks.toneOf(x, 1).equals("4,50,0,50,0,0,0"));
        Checks.holds("tone 2", Looks.toneOf(x, 2).equals("4,50,0,50,0,0,60"));
        x.pass(1);
        // two sort; one takes 22 of which 2 break, the other 30 of which 3 break
        Checks.holds("tone 0 then", Looks.toneOf(x, 0).equals("3,48,48,100,47,5,481"));
        Checks.holds("tone 3 then", Looks.toneOf(x, 3).equals("4,50,50,50,0,0,0"));
    }

    static void promise17ToneRefuses() {
        GoldSheets x = new GoldSheets();
        Checks.refuses(x, NO_INDEX, "tone(4, 7)", () -> x.tone(4, 7));
        Checks.refuses(x, NO_INDEX, "tone(-1, 0)", () -> x.tone(-1, 0));
        Checks.refuses(x, NO_ARGUMENT, "tone(0, 7)", () -> x.tone(0, 7));
        Checks.refuses(x, NO_ARGUMENT, "tone(3, -1)", () -> x.tone(3, -1));
    }

    static void promise18Count() {
        GoldSheets x = mixedUp();
        Checks.due("count(5)", x.count(5), 2);
        Checks.due("count(6)", x.count(6), 3);
        Checks.due("count(9)", x.count(9), 5);
        x.section(0, 10, 0);
        x.section(0, 10, 2);
        x.section(1, 10, 2);
        Checks.due("count(1)", x.count(1), 3);
        x.set(3, 1);
        x.pass(5);
        int[] counts = {5, 0, 3, 3, 5, 0, 1, 3, 2, 6};
        for (int what = 0; what <= 9; what++) {
            Checks.due("count(" + what + ")", x.count(what), counts[what]);
        }
        Checks.refuses(x, NO_ARGUMENT, "count(-1)", () -> x.count(-1));
        Checks.refuses(x, NO_ARGUMENT, "count(10)", () -> x.count(10));
    }

    static void promise19Setting() {
        GoldSheets x = new GoldSheets();
        x.set(4, 77);
        Checks.due("setting(4)", x.setting(4), 77);
        Checks.due("setting(3)", x.setting(3), 2);
        Checks.due("setting(5)", x.setting(5), 10);
        Checks.refuses(x, NO_INDEX, "setting(6)", () -> x.setting(6));
        Checks.refuses(x, NO_INDEX, "setting(-1)", () -> x.setting(-1));
    }
}
