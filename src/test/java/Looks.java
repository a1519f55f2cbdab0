/** All that can be seen of an object without changing it, as one text. */
final class Looks {
    private Looks() {
    }

    static String of(GoldSheets x) {
        StringBuilder text = new StringBuilder();
        for (int what = 0; what <= 9; what++) {
            text.append(x.count(what)).append(' ');
        }
        text.append("| ");
        for (int setting = 0; setting < 6; setting++) {
            text.append(x.setting(setting)).append(' ');
        }
        text.append("| ");
        for (int tray = 0; tray < 6; tray++) {
            text.append(trayOf(x, tray)).append(' ');
        }
        text.append("| ").append(sectionsOf(x)).append(" | ");
        for (int tone = 0; tone < 4; tone++) {
            text.append(toneOf(x, tone)).append(' ').append(x.missing(tone)).append(' ');
        }
        return text.append("| ").append(x.firstError()).append(' ').append(x.digest()).toString();
    }

    /** The cubes of a tray by tone: "0,50,0,20". */
    static String trayOf(GoldSheets x, int tray) {
        StringBuilder text = new StringBuilder();
        for (int tone = 0; tone < 4; tone++) {
            text.append(tone == 0 ? "" : ",").append(x.tray(tray, tone));
        }
        return text.toString();
    }

    /** The numbers 0 to 6 of a tone: "5,0,0,0,0,0,0". */
    static String toneOf(GoldSheets x, int tone) {
        StringBuilder text = new StringBuilder();
        for (int what = 0; what <= 6; what++) {
            text.append(what == 0 ? "" : ",").append(x.tone(tone, what));
        }
        return text.toString();
    }

    /** The properties of a section by its place: "0,1,40,9,0,0". */
    static String sectionOf(GoldSheets x, int place) {
        StringBuilder text = new StringBuilder();
        for (int what = 0; what <= 5; what++) {
            text.append(what == 0 ? "" : ",").append(x.sectionOf(place, what));
        }
        return text.toString();
    }

    /** All sections by their order: "0,1,40,9,0,0 1,2,50,9,0,0". */
    static String sectionsOf(GoldSheets x) {
        StringBuilder text = new StringBuilder();
        for (int place = 0; place < x.count(1); place++) {
            text.append(place == 0 ? "" : " ").append(sectionOf(x, place));
        }
        return text.toString();
    }

    /** The numbers of the sections by their order: "1 0 2". */
    static String orderOf(GoldSheets x) {
        StringBuilder text = new StringBuilder();
        for (int place = 0; place < x.count(1); place++) {
            text.append(place == 0 ? "" : " ").append(x.sectionOf(place, 0));
        }
        return text.toString();
    }

    static GoldSheets withText(String text) {
        GoldSheets x = new GoldSheets();
        type(x, text);
        return x;
    }

    static void type(GoldSheets x, String text) {
        for (int index = 0; index < text.length(); index++) {
            x.append(text.charAt(index));
        }
    }
}
