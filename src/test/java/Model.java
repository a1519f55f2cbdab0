import java.util.ArrayDeque;
import java.util.ArrayList;
import java.util.Comparator;
import java.util.Deque;
import java.util.List;
import java.util.regex.Matcher;
import java.util.regex.Pattern;

/**
 * The document once more, written down as slowly and as plainly as it reads, to compare the class with.
 * It does not check arguments: ModelTests asks refusal() first.
 */
final class Model {
    static final Pattern PART = Pattern.compile("(500|[1-4][0-9][0-9]|[1-9][0-9]?)([a-d])@(0|[1-9][0-9]{0,2})");
    static final Pattern TEXT = Pattern.compile(PART.pattern() + "(;" + PART.pattern() + ")*");

    static final class Section {
        int number;
        int tone;
        int wants;
        int day;
        int laid;

        Section(int number, int tone, int wants, int day, int laid) {
            this.number = number;
            this.tone = tone;
            this.wants = wants;
            this.day = day;
            this.laid = laid;
        }
    }

    int[] sheets = {5, 5, 5, 5};
    int[][] trays = new int[6][4];
    int[] settings = {50, 120, 0, 2, 30, 10};
    List<Section> sections = new ArrayList<>();
    int numbers = 0;
    int day = 0;
    int done = 0;
    int late = 0;
    int lateDays = 0;
    int sorted = 0;
    int[] cut = new int[4];
    int[] laid = new int[4];
    int[] swept = new int[4];
    Deque<Model> saved = new ArrayDeque<>();
    String buffer = "";

    /** All but the buffer and the saved states. */
    Model copy() {
        Model copy = new Model();
        copy.take(this);
        return copy;
    }

    void take(Model from) {
        sheets = from.sheets.clone();
        settings = from.settings.clone();
        cut = from.cut.clone();
        laid = from.laid.clone();
        swept = from.swept.clone();
        for (int tray = 0; tray < 6; tray++) {
            trays[tray] = from.trays[tray].clone();
        }
        sections = new ArrayList<>();
        for (Section s : from.sections) {
            sections.add(new Section(s.number, s.tone, s.wants, s.day, s.laid));
        }
        numbers = from.numbers;
        day = from.day;
        done = from.done;
        late = from.late;
        lateDays = from.lateDays;
        sorted = from.sorted;
    }

    void save() {
        saved.addLast(copy());
        if (saved.size() > 6) {
            saved.removeFirst();
        }
    }

    static int sum(int[] row) {
        int sum = 0;
        for (int value : row) {
            sum += value;
        }
        return sum;
    }

    static int kinds(int[] tray) {
        int kinds = 0;
        for (int cubes : tray) {
            kinds += cubes > 0 ? 1 : 0;
        }
        return kinds;
    }

    int store(int tone, int more) {
        save();
        return sheets[tone] += more;
    }

    int cut(int tone, int tray) {
        save();
        sheets[tone]--;
        int got = 0;
        for (int cube = 0; cube < settings[0]; cube++) {
            cut[tone]++;
            if (sum(trays[tray]) < settings[1]) {
                trays[tray][tone]++;
                got++;
            } else {
                swept[tone]++;
            }
        }
        return got;
    }

    private int move(int tray, int other, int tone) {
        int moved = 0;
        while (trays[tray][tone] > 0 && sum(trays[other]) < settings[1]) {
            trays[tray][tone]--;
            trays[other][tone]++;
            moved++;
        }
        return moved;
    }

    int tip(int tray, int other) {
        save();
        return move(tray, other, 0) + move(tray, other, 1) + move(tray, other, 2) + move(tray, other, 3);
    }

    int sweep(int tray) {
        save();
        int cubes = sum(trays[tray]);
        for (int tone = 0; tone < 4; tone++) {
            swept[tone] += trays[tray][tone];
            trays[tray][tone] = 0;
        }
        return cubes;
    }

    private void add(int tone, int cubes, int byDay) {
        sections.add(new Section(numbers++, tone, cubes, byDay, 0));
    }

    int section(int tone, int cubes, int byDay) {
        save();
        add(tone, cubes, byDay);
        return numbers - 1;
    }

    Section find(int number) {
        for (Section s : sections) {
            if (s.number == number) {
                return s;
            }
        }
        return null;
    }

    int drop(int number) {
        save();
        Section gone = find(number);
        sections.remove(gone);
        laid[gone.tone] -= gone.laid;
        swept[gone.tone] += gone.laid;
        return gone.laid;
    }

    int set(int setting, int value) {
        save();
        int previous = settings[setting];
        settings[setting] = value;
        return previous;
    }

    int pass(int days) {
        save();
        return days(days);
    }

    private int days(int days) {
        int came = 0;
        for (int passed = 0; passed < days; passed++) {
            came += oneDay();
        }
        return came;
    }

    List<Section> ordered() {
        List<Section> list = new ArrayList<>(sections);
        list.sort(Comparator.<Section>comparingInt(s -> settings[2] == 0 ? s.day : s.wants)
                .thenComparingInt(s -> s.number));
        return list;
    }

    private void sort(int[] tray) {
        int most = 0;
        for (int tone = 3; tone >= 0; tone--) {
            most = tray[tone] >= tray[most] ? tone : most;
        }
        for (int tone = 0; tone < 4; tone++) {
            int empty = 0;
            while (empty < 6 && sum(trays[empty]) > 0) {
                empty++;
            }
            if (tone != most && empty < 6) {
                int goes = Math.min(tray[tone], settings[1]);
                tray[tone] -= goes;
                trays[empty][tone] += goes;
            }
        }
    }

    int ready(int tone) {
        int ready = 0;
        for (int[] tray : trays) {
            ready += kinds(tray) == 1 ? tray[tone] : 0;
        }
        return ready;
    }

    private int lay(Section s) {
        int takes = Math.min(Math.min(taken(s.wants), settings[4]), ready(s.tone));
        for (int cube = 0; cube < takes; cube++) {
            int tray = 0;
            while (trays[tray][s.tone] == 0 || kinds(trays[tray]) > 1) {
                tray++;
            }
            trays[tray][s.tone]--;
        }
        int breaks = settings[5] == 0 ? 0 : takes / settings[5];
        s.wants -= takes - breaks;
        s.laid += takes - breaks;
        laid[s.tone] += takes - breaks;
        swept[s.tone] += breaks;
        return takes - breaks;
    }

    private int oneDay() {
        int setters = settings[3];
        int came = 0;
        for (int[] tray : trays) {
            if (setters > 0 && kinds(tray) > 1) {
                sort(tray);
                setters--;
                sorted++;
            }
        }
        for (Section s : ordered()) {
            while (setters > 0 && s.wants > 0 && ready(s.tone) > 0) {
                came += lay(s);
                setters--;
            }
            if (s.wants == 0) {
                sections.remove(s);
                done++;
                late += day > s.day ? 1 : 0;
                lateDays += Math.max(0, day - s.day);
            }
        }
        day++;
        return came;
    }

    int firstError() {
        for (int length = 1; length <= buffer.length(); length++) {
            Matcher matcher = TEXT.matcher(buffer.substring(0, length));
            // A matcher that hits the end could match with more behind it.
            if (!matcher.matches() && !matcher.hitEnd()) {
                return length - 1;
            }
        }
        return buffer.length();
    }

    int addAll() {
        save();
        Matcher matcher = PART.matcher(buffer);
        while (matcher.find()) {
            add(matcher.group(2).charAt(0) - 'a', Integer.parseInt(matcher.group(1)),
                    Integer.parseInt(matcher.group(3)));
        }
        buffer = "";
        return sections.size();
    }

    int undo() {
        take(saved.removeLast());
        return saved.size();
    }

    int tray(int tray, int tone) {
        return tone == -1 ? sum(trays[tray]) : trays[tray][tone];
    }

    int sectionOf(int place, int what) {
        List<Section> list = ordered();
        if (place >= list.size()) {
            return -1;
        }
        Section s = list.get(place);
        int[] properties = {s.number, s.tone, s.wants, s.day, s.laid, s.day < day ? 1 : 0};
        return properties[what];
    }

    int tone(int tone, int what) {
        int held = 0;
        for (int[] tray : trays) {
            held += tray[tone];
        }
        int wanted = 0;
        for (Section s : sections) {
            wanted += s.tone == tone ? s.wants : 0;
        }
        int[] numbersOfTone = {sheets[tone], held, ready(tone), cut[tone], laid[tone], swept[tone], wanted};
        return numbersOfTone[what];
    }

    int count(int what) {
        int mixed = 0;
        int empty = 0;
        for (int[] tray : trays) {
            mixed += kinds(tray) > 1 ? 1 : 0;
            empty += kinds(tray) == 0 ? 1 : 0;
        }
        int[] counts = {day, sections.size(), done, late, lateDays, mixed, empty, sum(swept), sorted, saved.size()};
        return counts[what];
    }

    int taken(int cubes) {
        int n = cubes;
        while (n - (settings[5] == 0 ? 0 : n / settings[5]) < cubes) {
            n++;
        }
        return n;
    }

    int missing(int tone) {
        int wanted = 0;
        for (Section s : sections) {
            wanted += s.tone == tone ? taken(s.wants) : 0;
        }
        int missing = 0;
        while ((sheets[tone] + missing) * settings[0] + tone(tone, 1) < wanted) {
            missing++;
        }
        return missing;
    }

    int ifPassed(int days, int what) {
        Model then = copy();
        int came = then.days(days);
        int[] brings = {came, then.done - done, then.lateDays - lateDays, sum(then.swept) - sum(swept)};
        return brings[what];
    }

    int doneIn(int number) {
        Model then = copy();
        for (int days = 1; days <= 60; days++) {
            then.oneDay();
            if (then.find(number) == null) {
                return days;
            }
        }
        return -1;
    }

    int bestOrder(int days) {
        Model first = copy();
        Model second = copy();
        first.settings[2] = 0;
        second.settings[2] = 1;
        first.days(days);
        second.days(days);
        boolean isBetter = second.done > first.done;
        boolean isAlike = second.done == first.done;
        return isBetter || isAlike && second.lateDays < first.lateDays ? 1 : 0;
    }

    double laidShare() {
        return sum(cut) == 0 ? 1.0 : (double) sum(laid) / sum(cut);
    }
}
