/** The hash of promise 26, made of what the other calls answer. */
final class Digests {
    /** What the hash is made of, of the class or of the model. */
    private abstract static class Answers {
        abstract int count(int what);

        abstract int setting(int setting);

        abstract int tray(int tray, int tone);

        abstract int sectionOf(int place, int what);

        abstract int doneIn(int number);

        abstract int tone(int tone, int what);

        abstract int missing(int tone);

        abstract int taken(int cubes);

        abstract int ifPassed(int days, int what);

        abstract int bestOrder(int days);

        abstract double laidShare();

        abstract String buffer();
    }

    private Digests() {
    }

    static long of(GoldSheets x, String buffer) {
        return hash(new Answers() {
            @Override int count(int what) {
                return x.count(what);
            }

            @Override int setting(int setting) {
                return x.setting(setting);
            }

            @Override int tray(int tray, int tone) {
                return x.tray(tray, tone);
            }

            @Override int sectionOf(int place, int what) {
                return x.sectionOf(place, what);
            }

            @Override int doneIn(int number) {
                return x.doneIn(number);
            }

            @Override int tone(int tone, int what) {
                return x.tone(tone, what);
            }

            @Override int missing(int tone) {
                return x.missing(tone);
            }

            @Override int taken(int cubes) {
                return x.taken(cubes);
            }

            @Override int ifPassed(int days, int what) {
                return x.ifPassed(days, what);
            }

            @Override int bestOrder(int days) {
                return x.bestOrder(days);
            }

            @Override double laidShare() {
                return x.laidShare();
            }

            @Override String buffer() {
                return buffer;
            }
        });
    }

    static long of(Model model) {
        return hash(new Answers() {
            @Override int count(int what) {
                return model.count(what);
            }

            @Override int setting(int setting) {
                return model.settings[setting];
            }

            @Override int tray(int tray, int tone) {
                return model.tray(tray, tone);
            }

            @Override int sectionOf(int place, int what) {
                return model.sectionOf(place, what);
            }

            @Override int doneIn(int number) {
                return model.doneIn(number);
            }

            @Override int tone(int tone, int what) {
                return model.tone(tone, what);
            }

            @Override int missing(int tone) {
                return model.missing(tone);
            }

            @Override int taken(int cubes) {
                return model.taken(cubes);
            }

            @Override int ifPassed(int days, int what) {
                return model.ifPassed(days, what);
            }

            @Override int bestOrder(int days) {
                return model.bestOrder(days);
            }

            @Override double laidShare() {
                return model.laidShare();
            }

            @Override String buffer() {
                return model.buffer;
            }
        });
    }

    private static long hash(Answers from) {
        long hash = 3023;
        for (int what = 0; what <= 9; what++) {
            hash = 31 * hash + from.count(what);
        }
        for (int setting = 0; setting < 6; setting++) {
            hash = 31 * hash + from.setting(setting);
        }
        for (int cell = 0; cell < 24; cell++) {
            hash = 31 * hash + from.tray(cell / 4, cell % 4);
        }
        for (int place = 0; from.sectionOf(place, 0) != -1; place++) {
            for (int what = 0; what <= 5; what++) {
                hash = 31 * hash + from.sectionOf(place, what);
            }
            hash = 31 * hash + from.doneIn(from.sectionOf(place, 0));
        }
        for (int tone = 0; tone < 4; tone++) {
            for (int what = 0; what <= 6; what++) {
                hash = 31 * hash + from.tone(tone, what);
            }
            hash = 31 * hash + from.missing(tone);
        }
        hash = 31 * hash + from.taken(100);
        for (int what = 0; what <= 3; what++) {
            hash = 31 * hash + from.ifPassed(5, what);
        }
        hash = 31 * hash + from.bestOrder(9);
        hash = 31 * hash + Double.doubleToLongBits(from.laidShare());
        hash = 31 * hash + from.buffer().length();
        for (char code : from.buffer().toCharArray()) {
            hash = 31 * hash + code;
        }
        return hash;
    }
}
