import java.math.BigInteger;
import java.util.ArrayList;
import java.util.List;

/** The hash of promise 26, made of what the other calls answer. */
final class Digests {
    /** What the hash is made of, of the class or of the model. */
    private abstract static class Answers {
        abstract int count(int what);

        abstract int setting(int setting);

        abstract int tray(int tray, int tone);

        abstract int sectionOf(int place, int what);

        abstract int doneIn(int number);

        abstract int tone(int tone, int what);

        abstract int missing(int tone);

        abstract int taken(int cubes);

        abstract int ifPassed(int days, int what);

        abstract int bestOrder(int days);

        abstract double laidShare();

        abstract String buffer();
    }

    private Digests() {
    }

    static long of(GoldSheets x, String buffer) {
        return hash(answersOf(x, buffer));
    }

    /** The hash as it would be if no arithmetic overflowed. */
    static BigInteger unbounded(GoldSheets x, String buffer) {
        BigInteger hash = BigInteger.valueOf(3023);
        for (long value : valuesOf(answersOf(x, buffer))) {
            hash = hash.multiply(BigInteger.valueOf(31)).add(BigInteger.valueOf(value));
        }
        return hash;
    }

    private static Answers answersOf(GoldSheets x, String buffer) {
        return new Answers() {
            @Override int count(int what) {
                return x.count(what);
            }

            @Override int setting(int setting) {
                return x.setting(setting);
            }

            @Override int tray(int tray, int tone) {
                return x.tray(tray, tone);
            }

            @Override int sectionOf(int place, int what) {
                return x.sectionOf(place, what);
            }

            @Override int doneIn(int number) {
                return x.doneIn(number);
            }

            @Override int tone(int tone, int what) {
                return x.tone(tone, what);
            }

            @Override int missing(int tone) {
                return x.missing(tone);
            }

            @Override int taken(int cubes) {
                return x.taken(cubes);
            }

            @Override int ifPassed(int days, int what) {
                return x.ifPassed(days, what);
            }

            @Override int bestOrder(int days) {
                return x.bestOrder(days);
            }

            @Override double laidShare() {
                return x.laidShare();
            }

            @Override String buffer() {
                return buffer;
            }
        };
    }

    static long of(Model model) {
        return hash(new Answers() {
            @Override int count(int what) {
                return model.count(what);
            }

            @Override int setting(int setting) {
                return model.settings[setting];
            }

            @Override int tray(int tray, int tone) {
                return model.tray(tray, tone);
            }

            @Override int sectionOf(int place, int what) {
                return model.sectionOf(place, what);
            }

            @Override int doneIn(int number) {
                return model.doneIn(number);
            }

            @Override int tone(int tone, int what) {
                return model.tone(tone, what);
            }

            @Override int missing(int tone) {
                return model.missing(tone);
            }

            @Override int taken(int cubes) {
                return model.taken(cubes);
            }

            @Override int ifPassed(int days, int what) {
                return model.ifPassed(days, what);
            }

            @Override int bestOrder(int days) {
                return model.bestOrder(days);
            }

            @Override double laidShare() {
                return model.laidShare();
            }

            @Override String buffer() {
                return model.buffer;
            }
        });
    }

    private static long hash(Answers from) {
        long hash = 3023;
        for (long value : valuesOf(from)) {
            hash = 31 * hash + value;
        }
        return hash;
    }

    private static List<Long> valuesOf(Answers from) {
        List<Long> values = new ArrayList<>();
        for (int what = 0; what <= 9; what++) {
            values.add((long) from.count(what));
        }
        for (int setting = 0; setting < 6; setting++) {
            values.add((long) from.setting(setting));
        }
        for (int cell = 0; cell < 24; cell++) {
            values.add((long) from.tray(cell / 4, cell % 4));
        }
        for (int place = 0; from.sectionOf(place, 0) != -1; place++) {
            for (int what = 0; what <= 5; what++) {
                values.add((long) from.sectionOf(place, what));
            }
            values.add((long) from.doneIn(from.sectionOf(place, 0)));
        }
        for (int tone = 0; tone < 4; tone++) {
            for (int what = 0; what <= 6; what++) {
                values.add((long) from.tone(tone, what));
            }
            values.add((long) from.missing(tone));
        }
        values.add((long) from.taken(100));
        for (int what = 0; what <= 3; what++) {
            values.add((long) from.ifPassed(5, what));
        }
        values.add((long) from.bestOrder(9));
        values.add(Double.doubleToLongBits(from.laidShare()));
        values.add((long) from.buffer().length());
        for (char code : from.buffer().toCharArray()) {
            values.add((long) code);
        }
        return values;
    }
}
