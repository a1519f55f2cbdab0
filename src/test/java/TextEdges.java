import java.util.Arrays;

/** The edges of promises 10 to 13: append, clearBuffer, firstError, addAll. */
final class TextEdges {
    private static final Class<IllegalArgumentException> NO_ARGUMENT = IllegalArgumentException.class;
    private static final Class<IllegalStateException> NO_STATE = IllegalStateException.class;
    private static final int FIRST_CODE = 33;
    private static final int LAST_CODE = 126;
    private static final String DIGITS = "0123456789";
    /** 60 characters, seven sections. */
    private static final String LONGEST = "100a@100;".repeat(6) + "500d@9";

    private TextEdges() {
    }

    static void promise10EdgeOfTheCodes() {
        Ranges.hold("append of", FIRST_CODE, LAST_CODE, NO_ARGUMENT, GoldSheets::new,
                (x, code) -> x.append(code), code -> 1);
        Ranges.hold("append behind 59 of", FIRST_CODE, LAST_CODE, NO_ARGUMENT, Made.text("~".repeat(59)),
                (x, code) -> x.append(code), code -> 60);
    }

    static void promise10EdgeOf60Characters() {
        for (int length : new int[] {0, 1, 57, 58, 59}) {
            Checks.due("append behind " + length, Looks.withText("!".repeat(length)).append('7'), length + 1);
        }
        for (int code : new int[] {FIRST_CODE, FIRST_CODE + 1, '1', ';', LAST_CODE - 1, LAST_CODE}) {
            Twins.refuse(Made.text("!".repeat(60)), NO_STATE, "append of " + code + " behind 60",
                    x -> x.append(code));
        }
    }

    static void promise10EdgeOfAFullBufferThatIsCleared() {
        GoldSheets x = Looks.withText("!".repeat(60));
        x.clearBuffer();
        Checks.due("append behind clearBuffer", x.append('7'), 1);
        GoldSheets y = Looks.withText(LONGEST);
        y.addAll();
        Checks.due("append behind addAll", y.append('7'), 1);
    }

    static void promise11EdgeOfTheLength() {
        for (int length : new int[] {0, 1, 2, 58, 59, 60}) {
            GoldSheets x = Looks.withText("z".repeat(length));
            Checks.due("clearBuffer() of " + length, x.clearBuffer(), length);
            Checks.due("clearBuffer() behind " + length, x.clearBuffer(), 0);
            Checks.due("firstError() behind " + length, x.firstError(), 0);
            Checks.due("digest() behind " + length, x.digest(), new GoldSheets().digest());
        }
    }

    static void promise12EdgeOfTheLength() {
        for (int length = 0; length <= 60; length++) {
            String good = LONGEST.substring(0, length);
            Checks.due("firstError() of " + good, Looks.withText(good).firstError(), length);
            if (length > 0) {
                String badEnd = good.substring(0, length - 1) + "!";
                Checks.due("firstError() of " + badEnd, Looks.withText(badEnd).firstError(), length - 1);
                String badStart = "~" + good.substring(1);
                Checks.due("firstError() of " + badStart, Looks.withText(badStart).firstError(), 0);
            }
        }
    }

    /** What may come behind a text; everything else from 33 to 126 is a syntax error. */
    private static void mayCome(String text, String codes) {
        for (int code = FIRST_CODE; code <= LAST_CODE; code++) {
            GoldSheets x = Looks.withText(text);
            x.append(code);
            int due = codes.indexOf(code) < 0 ? text.length() : text.length() + 1;
            Checks.due("firstError() of " + text + (char) code, x.firstError(), due);
        }
    }

    static void promise12EdgeOfEachCharacter() {
        mayCome("", "123456789");
        mayCome("1", DIGITS + "abcd");
        mayCome("5", DIGITS + "abcd");
        mayCome("6", DIGITS + "abcd");
        mayCome("9", DIGITS + "abcd");
        mayCome("10", DIGITS + "abcd");
        mayCome("49", DIGITS + "abcd");
        mayCome("50", "0abcd");
        mayCome("51", "abcd");
        mayCome("99", "abcd");
        mayCome("100", "abcd");
        mayCome("499", "abcd");
        mayCome("500", "abcd");
        mayCome("7a", "@");
        mayCome("500d", "@");
        mayCome("7d@", DIGITS);
        mayCome("7d@0", ";");
        mayCome("7d@1", DIGITS + ";");
        mayCome("7d@9", DIGITS + ";");
        mayCome("7d@10", DIGITS + ";");
        mayCome("7d@99", DIGITS + ";");
        mayCome("7d@100", ";");
        mayCome("7d@999", ";");
        mayCome("7d@999;", "123456789");
        mayCome("7d@0;50", "0abcd");
        mayCome("7d@5;7d@0", ";");
    }

    static void promise12EdgeOfTheFirstOfSeveralErrors() {
        Checks.due("firstError()", Looks.withText("0!;").firstError(), 0);
        Checks.due("firstError()", Looks.withText("501e@").firstError(), 2);
        Checks.due("firstError()", Looks.withText("9a@5;!9a@5;!").firstError(), 5);
        GoldSheets x = Looks.withText("9!a@5");
        Checks.due("firstError() once", x.firstError(), 1);
        Checks.due("firstError() again", x.firstError(), 1);
        x.append(';');
        Checks.due("firstError() with more behind it", x.firstError(), 1);
        x.clearBuffer();
        Checks.due("firstError() behind clearBuffer", x.firstError(), 0);
    }

    private static void adds(String text, String sections) {
        GoldSheets x = Looks.withText(text);
        Checks.due("addAll() of " + text, x.addAll(), sections.split(" ").length);
        Checks.dueText("sections of " + text, Looks.sectionsOf(x), sections);
        Checks.due("the buffer behind " + text, x.clearBuffer(), 0);
        Checks.due("count(9) behind " + text, x.count(9), 1);
    }

    private static void refuses(String text) {
        Twins.refuse(Made.text(text), NO_ARGUMENT, "addAll() of " + text, GoldSheets::addAll);
    }

    static void promise13EdgeOfTheCubes() {
        adds("1a@5", "0,0,1,5,0,0");
        adds("2a@5", "0,0,2,5,0,0");
        adds("499a@5", "0,0,499,5,0,0");
        adds("500a@5", "0,0,500,5,0,0");
        refuses("0a@5");
        refuses("501a@5");
        refuses("1000a@5");
        refuses("-1a@5");
        refuses("a@5");
    }

    static void promise13EdgeOfTheTones() {
        adds("7a@5", "0,0,7,5,0,0");
        adds("7b@5", "0,1,7,5,0,0");
        adds("7c@5", "0,2,7,5,0,0");
        adds("7d@5", "0,3,7,5,0,0");
        refuses("7`@5");
        refuses("7e@5");
        refuses("7A@5");
        refuses("7@5");
        refuses("70@5");
    }

    static void promise13EdgeOfTheDays() {
        adds("7a@0", "0,0,7,0,0,0");
        adds("7a@1", "0,0,7,1,0,0");
        adds("7a@998", "0,0,7,998,0,0");
        adds("7a@999", "0,0,7,999,0,0");
        refuses("7a@1000");
        refuses("7a@-1");
        refuses("7a@");
        refuses("7a5");
    }

    static void promise13EdgeOfLeadingZeros() {
        adds("10a@10", "0,0,10,10,0,0");
        adds("100a@100", "0,0,100,100,0,0");
        adds("101a@101", "0,0,101,101,0,0");
        refuses("01a@1");
        refuses("00a@1");
        refuses("001a@1");
        refuses("1a@01");
        refuses("1a@00");
        refuses("1a@000");
        refuses("1a@1;02a@2");
        refuses("1a@1;2a@02");
    }

    static void promise13EdgeOfATextThatIsNotComplete() {
        String whole = "500b@999;12d@0";
        for (int length = 0; length <= whole.length(); length++) {
            String text = whole.substring(0, length);
            if (!Model.TEXT.matcher(text).matches()) {
                refuses(text);
            }
        }
        adds("500b@9", "0,1,500,9,0,0");
        adds("500b@99", "0,1,500,99,0,0");
        adds("500b@999", "0,1,500,999,0,0");
        adds(whole, "1,3,12,0,0,0 0,1,500,999,0,0");
        refuses(whole + ";");
        refuses(";" + whole);
        refuses(whole + "!");
        refuses("500b@999;;12d@0");
        refuses(";");
        refuses("!");
    }

    static void promise13EdgeOfTenSections() {
        for (int before = 0; before <= 10; before++) {
            for (int parts = 1; parts <= 12; parts++) {
                addTo(before, parts);
            }
        }
    }

    private static void addTo(int before, int parts) {
        String[] text = new String[parts];
        Arrays.fill(text, "3c@4");
        String what = "addAll() of " + parts + " to " + before;
        if (before + parts > 10) {
            Twins.refuse(() -> sectionsAndText(before, String.join(";", text)), NO_STATE, what, GoldSheets::addAll);
            return;
        }
        GoldSheets x = sectionsAndText(before, String.join(";", text));
        Checks.due(what, x.addAll(), before + parts);
        Checks.due("count(1) behind " + what, x.count(1), before + parts);
        Checks.due("the last number behind " + what, x.sectionOf(before + parts - 1, 0), before + parts - 1);
        Checks.due("count(9) behind " + what, x.count(9), Math.min(6, before + 1));
        x.undo();
        Checks.due("count(1) behind undo of " + what, x.count(1), before);
    }

    private static GoldSheets sectionsAndText(int before, String text) {
        GoldSheets x = Made.withSections(before);
        Looks.type(x, text);
        return x;
    }

    static void promise13EdgeOf60Characters() {
        GoldSheets x = Looks.withText(LONGEST);
        Checks.due("the length", LONGEST.length(), 60);
        Checks.due("addAll() of 60 characters", x.addAll(), 7);
        Checks.dueText("its last section", Looks.sectionOf(x, 0), "6,3,500,9,0,0");
        Checks.dueText("its first section", Looks.sectionOf(x, 1), "0,0,100,100,0,0");
        Checks.due("clearBuffer()", x.clearBuffer(), 0);
        refuses("100a@100;".repeat(6) + "500d@;");
        refuses("100a@100;".repeat(6) + "50d@9;");
        refuses("1a@0;".repeat(12));
    }
}
