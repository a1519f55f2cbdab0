/** Runs of calls on the class and on the model side by side, the same ones each time. */
final class ModelTests {
    private static final int RUNS = 400;
    // An object has 512 calls; a step makes at most eleven.
    private static final int CALLS = 500;

    private final GoldSheets x = new GoldSheets();
    private final Model model = new Model();
    private final int lively;
    private long seed;
    private int calls = 0;

    private ModelTests(long seed, int lively) {
        this.seed = seed;
        this.lively = lively;
    }

    static void promise26AllAnswersAreThoseOfTheModel() {
        for (int run = 1; run <= RUNS; run++) {
            ModelTests both = new ModelTests(run * 7919L, run % 4);
            int failedBefore = Checks.failed();
            while (both.calls < CALLS && Checks.failed() == failedBefore) {
                both.step("run " + run + " call " + both.calls + ": ");
            }
        }
    }

    private int below(int bound) {
        seed = seed * 6364136223846793005L + 1442695040888963407L;
        return (int) Math.floorMod(seed >>> 33, (long) bound);
    }

    /** Mostly lowest to highest, now and then one off. */
    private int about(int lowest, int highest) {
        int odd = below(40);
        return odd == 0 ? lowest - 1 : odd == 1 ? highest + 1 : lowest + below(highest - lowest + 1);
    }

    private void step(String at) {
        switch (below(lively == 0 ? 26 : 22)) {
            case 0: case 1: both(at + "cut", this::cut); break;
            case 2: both(at + "store", this::store); break;
            case 3: both(at + "tip", this::tip); break;
            case 4: both(at + "sweep", this::sweep); break;
            case 5: case 6: both(at + "section", this::section); break;
            case 7: both(at + "drop", this::drop); break;
            case 8: both(at + "set", this::set); break;
            case 9: case 10: case 11: both(at + "pass", this::pass); break;
            case 12: case 13: type(at); break;
            case 14: both(at + "undo", this::undo); break;
            case 15: both(at + "tray", this::tray); break;
            case 16: both(at + "sectionOf", this::sectionOf); break;
            case 17: both(at + "tone", this::tone); break;
            case 18: both(at + "count", this::count); break;
            case 19: both(at + "ifPassed", this::ifPassed); break;
            case 20: both(at + "doneIn", this::doneIn); break;
            case 21: both(at + "bestOrder", this::bestOrder); break;
            case 22: both(at + "taken", this::taken); break;
            case 23: both(at + "missing", this::missing); break;
            default: both(at + "digest", this::digest);
        }
    }

    /** The answer of the class, and that of the model: a number, or the name of an exception. */
    private interface Step {
        String[] answers();
    }

    private void both(String what, Step step) {
        String[] answers = step.answers();
        Checks.holds(what + " answered " + answers[0] + ", due is " + answers[1], answers[0].equals(answers[1]));
    }

    private String[] pair(Checks.Call own, String refusal, Checks.Call due) {
        calls++;
        return new String[] {Checks.outcome(own), refusal != null ? refusal : Long.toString(due.answer())};
    }

    private static boolean isIn(int value, int lowest, int highest) {
        return value >= lowest && value <= highest;
    }

    private static String refusal(boolean index, boolean argument, boolean state) {
        return !index ? "IndexOutOfBoundsException"
                : !argument ? "IllegalArgumentException"
                : !state ? "IllegalStateException" : null;
    }

    private String[] cut() {
        int tone = about(0, 3);
        int tray = lively == 1 ? below(2) : about(0, 5);
        boolean index = isIn(tone, 0, 3) && isIn(tray, 0, 5);
        String refusal = refusal(index, true, !index || model.sheets[tone] > 0);
        return pair(() -> x.cut(tone, tray), refusal, () -> model.cut(tone, tray));
    }

    private String[] store() {
        int tone = about(0, 3);
        int more = below(3) > 0 ? 1 + below(9) : about(1, 99);
        boolean index = isIn(tone, 0, 3);
        String refusal = refusal(index, isIn(more, 1, 99), !index || model.sheets[tone] + more <= 999);
        return pair(() -> x.store(tone, more), refusal, () -> model.store(tone, more));
    }

    private String[] tip() {
        int tray = about(0, 5);
        int other = about(0, 5);
        String refusal = refusal(isIn(tray, 0, 5) && isIn(other, 0, 5), tray != other, true);
        return pair(() -> x.tip(tray, other), refusal, () -> model.tip(tray, other));
    }

    private String[] sweep() {
        int tray = about(0, 5);
        return pair(() -> x.sweep(tray), refusal(isIn(tray, 0, 5), true, true), () -> model.sweep(tray));
    }

    private String[] section() {
        int tone = about(0, 3);
        int cubes = below(3) > 0 ? 1 + below(60) : about(1, 500);
        int day = below(3) > 0 ? model.day % 900 + below(20) : about(0, 999);
        String refusal = refusal(isIn(tone, 0, 3), isIn(cubes, 1, 500) && isIn(day, 0, 999),
                model.sections.size() < 10);
        return pair(() -> x.section(tone, cubes, day), refusal, () -> model.section(tone, cubes, day));
    }

    private int someNumber() {
        int size = model.sections.size();
        return size > 0 && below(8) > 0 ? model.sections.get(below(size)).number : about(0, model.numbers);
    }

    private String[] drop() {
        int number = someNumber();
        String refusal = refusal(model.find(number) != null, true, true);
        return pair(() -> x.drop(number), refusal, () -> model.drop(number));
    }

    private String[] set() {
        int[] lowest = {1, 10, 0, 0, 1, 0};
        int[] highest = {200, 500, 1, 9, 99, 99};
        int setting = about(0, 5);
        boolean index = isIn(setting, 0, 5);
        int value = index ? about(lowest[setting], highest[setting]) : 1;
        boolean argument = !index || isIn(value, lowest[setting], highest[setting]) && !(setting == 5 && value == 1);
        return pair(() -> x.set(setting, value), refusal(index, argument, true), () -> model.set(setting, value));
    }

    private String[] pass() {
        int days = below(lively == 2 ? 2 : 9) > 0 ? 1 + below(3) : about(1, 60);
        String refusal = refusal(true, isIn(days, 1, 60), model.day + days <= 9999);
        return pair(() -> x.pass(days), refusal, () -> model.pass(days));
    }

    private void type(String at) {
        int kind = below(8);
        if (kind == 0) {
            both(at + "clearBuffer", this::clearBuffer);
        } else if (kind == 1) {
            both(at + "firstError", this::firstError);
        } else if (kind == 2) {
            both(at + "addAll", this::addAll);
        } else {
            String good = (1 + below(520)) + "" + (char) ('a' + below(4)) + "@" + below(1010);
            String text = model.buffer.isEmpty() ? good : ";" + good;
            int swap = below(4) == 0 ? below(text.length()) : -1;
            for (int index = 0; index < text.length(); index++) {
                char code = index == swap ? (char) about(33, 126) : text.charAt(index);
                both(at + "append", () -> append(code));
            }
        }
    }

    private String[] append(char code) {
        String refusal = refusal(true, isIn(code, 33, 126), model.buffer.length() < 60);
        return pair(() -> x.append(code), refusal, () -> {
            model.buffer += code;
            return model.buffer.length();
        });
    }

    private String[] clearBuffer() {
        return pair(x::clearBuffer, null, () -> {
            int length = model.buffer.length();
            model.buffer = "";
            return length;
        });
    }

    private String[] firstError() {
        return pair(x::firstError, null, model::firstError);
    }

    private String[] addAll() {
        boolean isText = Model.TEXT.matcher(model.buffer).matches();
        int parts = model.buffer.split(";").length;
        String refusal = refusal(true, isText, model.sections.size() + parts <= 10);
        return pair(x::addAll, refusal, model::addAll);
    }

    private String[] undo() {
        return pair(x::undo, refusal(true, true, !model.saved.isEmpty()), model::undo);
    }

    private String[] tray() {
        int tray = about(0, 5);
        int tone = about(-1, 3);
        String refusal = refusal(isIn(tray, 0, 5) && isIn(tone, -1, 3), true, true);
        return pair(() -> x.tray(tray, tone), refusal, () -> model.tray(tray, tone));
    }

    private String[] sectionOf() {
        int place = about(0, 9);
        int what = about(0, 5);
        String refusal = refusal(true, place >= 0 && isIn(what, 0, 5), true);
        return pair(() -> x.sectionOf(place, what), refusal, () -> model.sectionOf(place, what));
    }

    private String[] tone() {
        int tone = about(0, 3);
        int what = about(0, 6);
        String refusal = refusal(isIn(tone, 0, 3), isIn(what, 0, 6), true);
        return pair(() -> x.tone(tone, what), refusal, () -> model.tone(tone, what));
    }

    private String[] count() {
        int what = about(0, 9);
        return pair(() -> x.count(what), refusal(true, isIn(what, 0, 9), true), () -> model.count(what));
    }

    private String[] ifPassed() {
        int days = about(1, 60);
        int what = about(0, 3);
        String refusal = refusal(true, isIn(days, 1, 60) && isIn(what, 0, 3), true);
        return pair(() -> x.ifPassed(days, what), refusal, () -> model.ifPassed(days, what));
    }

    private String[] doneIn() {
        int number = someNumber();
        String refusal = refusal(model.find(number) != null, true, true);
        return pair(() -> x.doneIn(number), refusal, () -> model.doneIn(number));
    }

    private String[] bestOrder() {
        int days = about(1, 30);
        return pair(() -> x.bestOrder(days), refusal(true, isIn(days, 1, 30), true), () -> model.bestOrder(days));
    }

    private String[] taken() {
        int cubes = about(1, 500);
        return pair(() -> x.taken(cubes), refusal(true, isIn(cubes, 1, 500), true), () -> model.taken(cubes));
    }

    private String[] missing() {
        int tone = about(0, 3);
        return pair(() -> x.missing(tone), refusal(isIn(tone, 0, 3), true, true), () -> model.missing(tone));
    }

    private String[] digest() {
        calls++;
        Checks.dueShare("laidShare()", x.laidShare(), model.laidShare());
        return pair(x::digest, null, () -> Digests.of(model));
    }
}
