import java.math.BigInteger;

/** The edges of promises 25 and 26: laidShare, digest. */
final class DigestEdges {
    private DigestEdges() {
    }

    static void promise25EdgeOfNoCubeThatWasCut() {
        GoldSheets x = new GoldSheets();
        x.section(0, 1, 0);
        x.store(0, 1);
        x.set(0, 1);
        x.pass(1);
        Checks.dueShare("laidShare() of no cube", x.laidShare(), 1.0);
        x.cut(0, 0);
        Checks.dueShare("laidShare() of a cube that is kept", x.laidShare(), 0.0);
        x.pass(1);
        Checks.dueShare("laidShare() of a cube that is laid", x.laidShare(), 1.0);
        x.cut(1, 0);
        Checks.dueShare("laidShare() of two cubes", x.laidShare(), 0.5);
        x.undo();
        x.undo();
        Checks.dueShare("laidShare() behind undo", x.laidShare(), 0.0);
        x.sweep(0);
        Checks.dueShare("laidShare() of a cube that is swept", x.laidShare(), 0.0);
        x.undo();
        x.undo();
        Checks.dueShare("laidShare() of no cube again", x.laidShare(), 1.0);
    }

    /** One sheet is cut, and all cubes that the section wants are laid. */
    private static GoldSheets withShare(int laid, int cut) {
        GoldSheets x = new GoldSheets();
        x.set(0, cut);
        x.set(1, 500);
        x.set(3, 9);
        x.set(4, 99);
        x.set(5, 0);
        x.cut(1, 5);
        if (laid > 0) {
            x.section(1, laid, 0);
            x.pass(1);
        }
        return x;
    }

    static void promise25EdgeOfTheShares() {
        int[][] laidAndCut = {{0, 1}, {1, 1}, {0, 200}, {1, 200}, {199, 200}, {200, 200}, {1, 3}, {2, 3}};
        for (int[] row : laidAndCut) {
            GoldSheets x = withShare(row[0], row[1]);
            String what = row[0] + " of " + row[1];
            Checks.dueShare("laidShare() of " + what, x.laidShare(), (double) row[0] / row[1]);
            x.cut(0, 5);
            Checks.dueShare("laidShare() of " + what + " and another sheet", x.laidShare(),
                    (double) row[0] / (2 * row[1]));
        }
    }

    static void promise26EdgeOfTheShares() {
        for (int cut = 1; cut <= 200; cut += cut < 20 ? 1 : 9) {
            for (int laid = 0; laid <= cut; laid += cut < 20 ? 1 : 7) {
                GoldSheets x = withShare(laid, cut);
                Checks.due("digest() of " + laid + " of " + cut, x.digest(), Digests.of(x, ""));
            }
        }
    }

    static void promise26EdgeOfAnObjectInWhichNothingIs() {
        Checks.due("digest()", new GoldSheets().digest(), 6162573817515127642L);
        Checks.due("digest() with count(9) as 1", changed().digest(), Digests.of(changed(), ""));
        Checks.holds("digest() with count(9) as 1 is another", changed().digest() != new GoldSheets().digest());
    }

    private static GoldSheets changed() {
        GoldSheets x = new GoldSheets();
        x.sweep(0);
        return x;
    }

    static void promise26EdgeOfTheBuffer() {
        for (String text : new String[] {"", "!", "~", "!".repeat(59), "~".repeat(59), "!".repeat(60),
            "~".repeat(60)}) {
            GoldSheets x = Looks.withText(text);
            Checks.due("digest() of " + text, x.digest(), Digests.of(x, text));
        }
    }

    static void promise26EdgeOfTheSections() {
        for (int sections : new int[] {0, 1, 9, 10}) {
            GoldSheets x = Made.withSections(sections);
            Checks.due("digest() of sections " + sections, x.digest(), Digests.of(x, ""));
            GoldSheets y = Made.withSections(sections);
            y.set(3, 1);
            Made.put(y, 0, 0, 5);
            Made.put(y, 1, 2, 200);
            Checks.due("digest() of sections and cubes " + sections, y.digest(), Digests.of(y, ""));
        }
    }

    static void promise26EdgeOfTheDaysOfEachForecast() {
        // one more day would change ifPassed of 5, bestOrder of 9, or doneIn
        for (int cubes : new int[] {4, 5, 6, 8, 9, 10, 59, 60, 61}) {
            for (int order = 0; order <= 1; order++) {
                GoldSheets x = Made.oneCubeADay();
                Made.put(x, 0, 0, 200);
                x.section(0, 500, 0);
                x.section(0, cubes, 1);
                x.set(2, order);
                Checks.due("digest() with a section of " + cubes, x.digest(), Digests.of(x, ""));
            }
        }
    }

    static void promise26EdgeOfSheetsThatAreMissing() {
        for (int cubes : new int[] {225, 226, 500}) {
            GoldSheets x = new GoldSheets();
            for (int tone = 0; tone < 4; tone++) {
                x.section(tone, cubes - tone, 0);
            }
            Checks.due("digest() with missing sheets of " + cubes, x.digest(), Digests.of(x, ""));
        }
    }

    static void promise26EdgeOfTheLastDay() {
        GoldSheets x = Made.onDay(9999);
        x.section(2, 70, 999);
        Made.put(x, 0, 2, 99);
        Checks.due("digest() on day 9999", x.digest(), Digests.of(x, ""));
    }

    static void promise26EdgeOfTheOverflow() {
        String text = "";
        int below = 0;
        for (int length = 0; length <= 12; length++) {
            GoldSheets x = Looks.withText(text);
            BigInteger unbounded = Digests.unbounded(x, text);
            Checks.holds("the hash overflows", unbounded.bitLength() > 63);
            Checks.due("digest() of " + text, x.digest(), unbounded.longValue());
            below += x.digest() < 0 ? 1 : 0;
            text += "~";
        }
        Checks.holds("some of the hashes are below 0, and some are not", below > 0 && below < 13);
    }
}
