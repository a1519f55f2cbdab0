/** Gold sheets of a mosaic dome: sheets, trays of cubes, sections with a day, and what days bring. */
public final class GoldSheets {
    public static final int NONE = -1;

    private static final int TONES = 4;
    private static final int TRAYS = 6;
    private static final int MOST_SECTIONS = 10;
    private static final int MOST_SAVED = 6;
    private static final int MOST_SHEETS = 999;
    private static final int MOST_STORED_AT_ONCE = 99;
    private static final int MOST_CUBES = 500;
    private static final int LAST_SECTION_DAY = 999;
    private static final int LAST_DAY = 9999;
    private static final int MOST_DAYS = 60;
    private static final int MOST_DAYS_OF_ORDER = 30;

    private static final int SHEET_CUBES = 0;
    private static final int TRAY_ROOM = 1;
    private static final int ORDER = 2;
    private static final int SETTERS = 3;
    private static final int LAID_A_DAY = 4;
    private static final int ONE_BREAKS_OF = 5;
    private static final int SETTINGS = 6;
    private static final int[] FIRST_SETTINGS = {50, 120, 0, 2, 30, 10};
    private static final int[] LOWEST_SETTINGS = {1, 10, 0, 0, 1, 0};
    private static final int[] HIGHEST_SETTINGS = {200, 500, 1, 9, 99, 99};
    private static final int FIRST_SHEETS = 5;

    // The cells of a section stand in the order in which sectionOf numbers its properties.
    private static final int NUMBER = 0;
    private static final int TONE = 1;
    private static final int WANTS = 2;
    private static final int DUE = 3;
    private static final int LAID = 4;
    private static final int SECTION_CELLS = 5;
    private static final int IS_OVER = 5;

    private final Dome dome;
    private final Dome trial;
    private final History history;
    private final SectionText text;
    private final int[] doneBehind;

    public GoldSheets() {
        dome = new Dome();
        trial = new Dome();
        history = new History();
        text = new SectionText();
        doneBehind = new int[MOST_SECTIONS];
    }

    // ---- gold

    public int store(int tone, int sheets)
            throws IndexOutOfBoundsException, IllegalArgumentException, IllegalStateException {
        requireIndex(tone, TONES);
        requireRange(sheets, 1, MOST_STORED_AT_ONCE);
        if (valueAt(dome.sheets, tone) + sheets > MOST_SHEETS) {
            throw new IllegalStateException("the store would have too many sheets");
        }
        history.save(dome);
        addAt(dome.sheets, tone, sheets);
        return valueAt(dome.sheets, tone);
    }

    public int cut(int tone, int tray) throws IndexOutOfBoundsException, IllegalStateException {
        requireIndex(tone, TONES);
        requireIndex(tray, TRAYS);
        if (valueAt(dome.sheets, tone) < 1) {
            throw new IllegalStateException("the store has no sheet of the tone");
        }
        history.save(dome);
        return dome.cutSheet(tone, tray);
    }

    public int tip(int tray, int other) throws IndexOutOfBoundsException, IllegalArgumentException {
        requireIndex(tray, TRAYS);
        requireIndex(other, TRAYS);
        if (tray == other) {
            throw new IllegalArgumentException("both trays are the same");
        }
        history.save(dome);
        return dome.tipTray(tray, other);
    }

    public int sweep(int tray) throws IndexOutOfBoundsException {
        requireIndex(tray, TRAYS);
        history.save(dome);
        return dome.sweepTray(tray);
    }

    // ---- sections

    public int section(int tone, int cubes, int day)
            throws IndexOutOfBoundsException, IllegalArgumentException, IllegalStateException {
        requireIndex(tone, TONES);
        requireRange(cubes, 1, MOST_CUBES);
        requireRange(day, 0, LAST_SECTION_DAY);
        if (dome.sections.size >= MOST_SECTIONS) {
            throw new IllegalStateException("there are as many sections as there may be");
        }
        history.save(dome);
        return dome.addSection(tone, cubes, day);
    }

    public int drop(int number) throws IndexOutOfBoundsException {
        int place = requireSection(number);
        history.save(dome);
        return dome.dropSection(place);
    }

    public int set(int setting, int value) throws IndexOutOfBoundsException, IllegalArgumentException {
        requireIndex(setting, SETTINGS);
        requireRange(value, valueAt(LOWEST_SETTINGS, setting), valueAt(HIGHEST_SETTINGS, setting));
        if (setting == ONE_BREAKS_OF && value == 1) {
            throw new IllegalArgumentException("not every cube can break");
        }
        history.save(dome);
        return dome.changeSetting(setting, value);
    }

    public int pass(int days) throws IllegalArgumentException, IllegalStateException {
        requireRange(days, 1, MOST_DAYS);
        if (dome.day + days > LAST_DAY) {
            throw new IllegalStateException("the day would be above the last one");
        }
        history.save(dome);
        int before = sumOf(dome.laid);
        for (int passed = 0; passed < days; passed++) {
            dome.passDay();
        }
        return sumOf(dome.laid) - before;
    }

    // ---- texts

    public int append(int code) throws IllegalArgumentException, IllegalStateException {
        requireRange(code, SectionText.FIRST_CODE, SectionText.LAST_CODE);
        if (text.length >= SectionText.MOST_CODES) {
            throw new IllegalStateException("the buffer is full");
        }
        text.add(code);
        return text.length;
    }

    public int clearBuffer() {
        int length = text.length;
        text.erase();
        return length;
    }

    public int firstError() {
        return text.read();
    }

    public int addAll() throws IllegalArgumentException, IllegalStateException {
        if (!text.readSections()) {
            throw new IllegalArgumentException("the buffer is not complete sections as a text");
        }
        if (dome.sections.size + text.parts > MOST_SECTIONS) {
            throw new IllegalStateException("there would be too many sections");
        }
        history.save(dome);
        for (int part = 0; part < text.parts; part++) {
            dome.addSection(valueAt(text.tones, part), valueAt(text.cubes, part), valueAt(text.days, part));
        }
        text.erase();
        return dome.sections.size;
    }

    public int undo() throws IllegalStateException {
        if (history.size < 1) {
            throw new IllegalStateException("there is no saved state");
        }
        history.restoreTo(dome);
        return history.size;
    }

    // ---- looks; nothing is changed

    public int tray(int tray, int tone) throws IndexOutOfBoundsException {
        requireIndex(tray, TRAYS);
        if (tone == NONE) {
            return dome.trays.heldInAll(tray);
        }
        requireIndex(tone, TONES);
        return dome.trays.held(tray, tone);
    }

    public int sectionOf(int place, int what) throws IllegalArgumentException {
        if (place < 0) {
            throw new IllegalArgumentException("a place is not below 0");
        }
        requireRange(what, 0, IS_OVER);
        if (place >= dome.sections.size) {
            return NONE;
        }
        if (what == IS_OVER) {
            return dome.day > dome.sections.valueOf(place, DUE) ? 1 : 0;
        }
        return dome.sections.valueOf(place, what);
    }

    public int tone(int tone, int what) throws IndexOutOfBoundsException, IllegalArgumentException {
        requireIndex(tone, TONES);
        switch (what) {
            case 0: return valueAt(dome.sheets, tone);
            case 1: return dome.trays.heldOf(tone);
            case 2: return dome.trays.readyOf(tone);
            case 3: return valueAt(dome.cut, tone);
            case 4: return valueAt(dome.laid, tone);
            case 5: return valueAt(dome.swept, tone);
            case 6: return dome.sections.wantedOf(tone);
            default: throw new IllegalArgumentException("a tone has no such number");
        }
    }

    public int count(int what) throws IllegalArgumentException {
        switch (what) {
            case 0: return dome.day;
            case 1: return dome.sections.size;
            case 2: return dome.done;
            case 3: return dome.late;
            case 4: return dome.lateDays;
            case 5: return dome.trays.mixedTrays();
            case 6: return dome.trays.emptyTrays();
            case 7: return sumOf(dome.swept);
            case 8: return dome.sorted;
            case 9: return history.size;
            default: throw new IllegalArgumentException("there is no such number");
        }
    }

    public int setting(int setting) throws IndexOutOfBoundsException {
        requireIndex(setting, SETTINGS);
        return valueAt(dome.settings, setting);
    }

    // ---- what would be; nothing is changed

    public int taken(int cubes) throws IllegalArgumentException {
        requireRange(cubes, 1, MOST_CUBES);
        return dome.takenFor(cubes);
    }

    public int missing(int tone) throws IndexOutOfBoundsException {
        requireIndex(tone, TONES);
        return dome.missingSheets(tone);
    }

    public int ifPassed(int days, int what) throws IllegalArgumentException {
        requireRange(days, 1, MOST_DAYS);
        requireRange(what, 0, 3);
        passTrial(days, valueAt(dome.settings, ORDER));
        switch (what) {
            case 0: return sumOf(trial.laid) - sumOf(dome.laid);
            case 1: return trial.done - dome.done;
            case 2: return trial.lateDays - dome.lateDays;
            default: return sumOf(trial.swept) - sumOf(dome.swept);
        }
    }

    public int doneIn(int number) throws IndexOutOfBoundsException {
        int place = requireSection(number);
        foreseeSections();
        return valueAt(doneBehind, place);
    }

    public int bestOrder(int days) throws IllegalArgumentException {
        requireRange(days, 1, MOST_DAYS_OF_ORDER);
        passTrial(days, 0);
        int doneByDay = trial.done;
        int lateByDay = trial.lateDays;
        passTrial(days, 1);
        if (trial.done != doneByDay) {
            return trial.done > doneByDay ? 1 : 0;
        }
        return trial.lateDays < lateByDay ? 1 : 0;
    }

    public double laidShare() {
        int cut = sumOf(dome.cut);
        return cut < 1 ? 1.0 : (double) sumOf(dome.laid) / (double) cut;
    }

    public long digest() {
        long hash = 3023;
        for (int what = 0; what <= 9; what++) {
            hash = 31 * hash + count(what);
        }
        for (int setting = 0; setting < SETTINGS; setting++) {
            hash = 31 * hash + setting(setting);
        }
        hash = hashOfSections(hashOfTrays(hash));
        hash = hashOfTones(hash);
        hash = 31 * hash + taken(100);
        for (int what = 0; what <= 3; what++) {
            hash = 31 * hash + ifPassed(5, what);
        }
        hash = 31 * hash + bestOrder(9);
        hash = 31 * hash + bitsOf(laidShare());
        return hashOfText(hash);
    }

    private long hashOfTrays(long before) {
        long hash = before;
        for (int tray = 0; tray < TRAYS; tray++) {
            for (int tone = 0; tone < TONES; tone++) {
                hash = 31 * hash + tray(tray, tone);
            }
        }
        return hash;
    }

    private long hashOfSections(long before) {
        long hash = before;
        foreseeSections();
        for (int place = 0; place < dome.sections.size; place++) {
            for (int what = 0; what <= IS_OVER; what++) {
                hash = 31 * hash + sectionOf(place, what);
            }
            hash = 31 * hash + valueAt(doneBehind, place);
        }
        return hash;
    }

    private long hashOfTones(long before) {
        long hash = before;
        for (int tone = 0; tone < TONES; tone++) {
            for (int what = 0; what <= 6; what++) {
                hash = 31 * hash + tone(tone, what);
            }
            hash = 31 * hash + missing(tone);
        }
        return hash;
    }

    private long hashOfText(long before) {
        long hash = 31 * before + text.length;
        for (int index = 0; index < text.length; index++) {
            hash = 31 * hash + valueAt(text.codes, index);
        }
        return hash;
    }

    // One walk tells it of all sections, so that digest does not walk the days once for each.
    private void foreseeSections() {
        for (int place = 0; place < doneBehind.length; place++) {
            doneBehind[place] = NONE;
        }
        trial.copyFrom(dome);
        for (int days = 1; days <= MOST_DAYS && trial.sections.size > 0; days++) {
            trial.passDay();
            noteDone(days);
        }
    }

    private void noteDone(int days) {
        for (int place = 0; place < dome.sections.size && place < doneBehind.length; place++) {
            int number = dome.sections.valueOf(place, NUMBER);
            if (doneBehind[place] == NONE && trial.sections.placeOf(number) == NONE) {
                doneBehind[place] = days;
            }
        }
    }

    private void passTrial(int days, int order) {
        trial.copyFrom(dome);
        trial.changeSetting(ORDER, order);
        for (int passed = 0; passed < days; passed++) {
            trial.passDay();
        }
    }

    private int requireSection(int number) {
        int place = dome.sections.placeOf(number);
        if (place == NONE) {
            throw new IndexOutOfBoundsException("there is no such section");
        }
        return place;
    }

    private static void requireIndex(int index, int size) {
        if (index < 0 || index >= size) {
            throw new IndexOutOfBoundsException("there is none of this number");
        }
    }

    private static void requireRange(int value, int lowest, int highest) {
        if (value < lowest || value > highest) {
            throw new IllegalArgumentException("a value is out of range");
        }
    }

    // The library's own function for this is not among those that the program may use.
    private static long bitsOf(double share) {
        if (share <= 0.0) {
            return 0L;
        }
        double scaled = share;
        long exponent = 1023;
        while (scaled < 1.0 && exponent > 1) {
            scaled = scaled * 2.0;
            exponent--;
        }
        return (exponent << 52) + (long) ((scaled - 1.0) * 4503599627370496.0);
    }

    private static int valueAt(int[] row, int index) {
        return index >= 0 && index < row.length ? row[index] : 0;
    }

    private static void addAt(int[] row, int index, int more) {
        if (index >= 0 && index < row.length) {
            row[index] += more;
        }
    }

    private static int sumOf(int[] row) {
        int sum = 0;
        for (int value : row) {
            sum += value;
        }
        return sum;
    }

    private static void copyRow(int[] from, int[] to) {
        System.arraycopy(from, 0, to, 0, Math.min(from.length, to.length));
    }

    /** The cubes in the trays. */
    private static final class Trays {
        private final int[] cubes = new int[TRAYS * TONES];

        void copyFrom(Trays other) {
            copyRow(other.cubes, cubes);
        }

        int held(int tray, int tone) {
            boolean isThere = tray >= 0 && tray < TRAYS && tone >= 0 && tone < TONES;
            return isThere ? cubes[tray * TONES + tone] : 0;
        }

        void change(int tray, int tone, int more) {
            if (tray >= 0 && tray < TRAYS && tone >= 0 && tone < TONES) {
                cubes[tray * TONES + tone] += more;
            }
        }

        int heldInAll(int tray) {
            int sum = 0;
            for (int tone = 0; tone < TONES; tone++) {
                sum += held(tray, tone);
            }
            return sum;
        }

        int freeIn(int tray, int room) {
            // A tray may have more than its room since the setting was lowered.
            return Math.max(0, room - heldInAll(tray));
        }

        int tonesIn(int tray) {
            if (tray < 0 || tray >= TRAYS) {
                return 0;
            }
            int tones = 0;
            for (int tone = 0; tone < TONES; tone++) {
                if (cubes[tray * TONES + tone] > 0) {
                    tones++;
                }
            }
            return tones;
        }

        int mixedTrays() {
            int mixed = 0;
            for (int tray = 0; tray < TRAYS; tray++) {
                if (tonesIn(tray) > 1) {
                    mixed++;
                }
            }
            return mixed;
        }

        int emptyTrays() {
            int empty = 0;
            for (int tray = 0; tray < TRAYS; tray++) {
                if (tonesIn(tray) == 0) {
                    empty++;
                }
            }
            return empty;
        }

        int heldOf(int tone) {
            int sum = 0;
            for (int tray = 0; tray < TRAYS; tray++) {
                sum += held(tray, tone);
            }
            return sum;
        }

        /** The cubes of a tone that setters can take: those in trays that are not mixed up. */
        int readyOf(int tone) {
            int sum = 0;
            for (int tray = 0; tray < TRAYS; tray++) {
                if (held(tray, tone) > 0 && tonesIn(tray) == 1) {
                    sum += held(tray, tone);
                }
            }
            return sum;
        }

        /** Returns how many cubes the other tray gets, at most as many as it has room for. */
        int pour(int tray, int other, int tone, int free) {
            int moved = Math.min(held(tray, tone), free);
            change(tray, tone, -moved);
            change(other, tone, moved);
            return moved;
        }

        /** Returns how many cubes of the tone there were. */
        int clear(int tray, int tone) {
            int swept = held(tray, tone);
            change(tray, tone, -swept);
            return swept;
        }

        void sortOut(int tray, int room) {
            int kept = mostOf(tray);
            for (int tone = 0; tone < TONES; tone++) {
                int empty = lowestEmpty();
                if (tone != kept && empty != NONE) {
                    pour(tray, empty, tone, room);
                }
            }
        }

        private int mostOf(int tray) {
            int most = 0;
            for (int tone = 1; tone < TONES; tone++) {
                if (held(tray, tone) > held(tray, most)) {
                    most = tone;
                }
            }
            return most;
        }

        private int lowestEmpty() {
            for (int tray = 0; tray < TRAYS; tray++) {
                if (tonesIn(tray) == 0) {
                    return tray;
                }
            }
            return NONE;
        }

        /** Returns how many cubes were there to take, at most as many as wanted. */
        int takeReady(int tone, int wanted) {
            int got = 0;
            for (int tray = 0; tray < TRAYS && got < wanted; tray++) {
                if (held(tray, tone) > 0 && tonesIn(tray) == 1) {
                    int share = Math.min(wanted - got, held(tray, tone));
                    change(tray, tone, -share);
                    got += share;
                }
            }
            return got;
        }
    }

    /** The sections, always kept in the order of the rule that was last arranged. */
    private static final class Sections {
        private final int[] cells = new int[MOST_SECTIONS * SECTION_CELLS];
        private int size;
        private int came;

        void copyFrom(Sections other) {
            copyRow(other.cells, cells);
            size = other.size;
            came = other.came;
        }

        int valueOf(int place, int cell) {
            boolean isThere = place >= 0 && place < size && cell >= 0 && cell < SECTION_CELLS;
            return isThere ? cells[place * SECTION_CELLS + cell] : NONE;
        }

        private void put(int place, int cell, int value) {
            if (place >= 0 && place < size && cell >= 0 && cell < SECTION_CELLS) {
                cells[place * SECTION_CELLS + cell] = value;
            }
        }

        int placeOf(int number) {
            for (int place = 0; place < size; place++) {
                if (valueOf(place, NUMBER) == number) {
                    return place;
                }
            }
            return NONE;
        }

        int wantedOf(int tone) {
            int sum = 0;
            for (int place = 0; place < size; place++) {
                if (valueOf(place, TONE) == tone) {
                    sum += valueOf(place, WANTS);
                }
            }
            return sum;
        }

        /** Returns the number of the new section. */
        int add(int tone, int cubes, int due) {
            if (size >= MOST_SECTIONS) {
                return NONE;
            }
            int place = size;
            size++;
            put(place, NUMBER, came);
            put(place, TONE, tone);
            put(place, WANTS, cubes);
            put(place, DUE, due);
            put(place, LAID, 0);
            came++;
            return came - 1;
        }

        void remove(int place) {
            if (place < 0 || place >= size) {
                return;
            }
            for (int next = place + 1; next < size; next++) {
                for (int cell = 0; cell < SECTION_CELLS; cell++) {
                    put(next - 1, cell, valueOf(next, cell));
                }
            }
            size--;
        }

        void lay(int place, int cubes) {
            put(place, WANTS, valueOf(place, WANTS) - cubes);
            put(place, LAID, valueOf(place, LAID) + cubes);
        }

        void arrange(int order) {
            int key = order == 0 ? DUE : WANTS;
            for (int sorted = 1; sorted < size; sorted++) {
                for (int place = sorted; place > 0 && comesBefore(place, place - 1, key); place--) {
                    swap(place, place - 1);
                }
            }
        }

        private boolean comesBefore(int place, int other, int key) {
            int mine = valueOf(place, key);
            int its = valueOf(other, key);
            return mine != its ? mine < its : valueOf(place, NUMBER) < valueOf(other, NUMBER);
        }

        private void swap(int place, int other) {
            for (int cell = 0; cell < SECTION_CELLS; cell++) {
                int value = valueOf(place, cell);
                put(place, cell, valueOf(other, cell));
                put(other, cell, value);
            }
        }
    }

    /** All that undo restores. */
    private static final class Dome {
        private final Trays trays = new Trays();
        private final Sections sections = new Sections();
        private final int[] settings = new int[SETTINGS];
        private final int[] sheets = new int[TONES];
        private final int[] cut = new int[TONES];
        private final int[] laid = new int[TONES];
        private final int[] swept = new int[TONES];
        private int day;
        private int done;
        private int late;
        private int lateDays;
        private int sorted;

        Dome() {
            copyRow(FIRST_SETTINGS, settings);
            for (int tone = 0; tone < TONES; tone++) {
                sheets[tone] = FIRST_SHEETS;
            }
        }

        void copyFrom(Dome other) {
            trays.copyFrom(other.trays);
            sections.copyFrom(other.sections);
            copyRow(other.settings, settings);
            copyRow(other.sheets, sheets);
            copyRow(other.cut, cut);
            copyRow(other.laid, laid);
            copyRow(other.swept, swept);
            day = other.day;
            done = other.done;
            late = other.late;
            lateDays = other.lateDays;
            sorted = other.sorted;
        }

        int cutSheet(int tone, int tray) {
            int cubes = settings[SHEET_CUBES];
            int got = Math.min(cubes, trays.freeIn(tray, settings[TRAY_ROOM]));
            trays.change(tray, tone, got);
            addAt(sheets, tone, -1);
            addAt(cut, tone, cubes);
            addAt(swept, tone, cubes - got);
            return got;
        }

        int tipTray(int tray, int other) {
            int moved = 0;
            for (int tone = 0; tone < TONES; tone++) {
                moved += trays.pour(tray, other, tone, trays.freeIn(other, settings[TRAY_ROOM]));
            }
            return moved;
        }

        int sweepTray(int tray) {
            int sum = 0;
            for (int tone = 0; tone < TONES; tone++) {
                int cubes = trays.clear(tray, tone);
                addAt(swept, tone, cubes);
                sum += cubes;
            }
            return sum;
        }

        int addSection(int tone, int cubes, int due) {
            int number = sections.add(tone, cubes, due);
            sections.arrange(settings[ORDER]);
            return number;
        }

        int dropSection(int place) {
            int tone = sections.valueOf(place, TONE);
            int cubes = sections.valueOf(place, LAID);
            addAt(laid, tone, -cubes);
            addAt(swept, tone, cubes);
            sections.remove(place);
            return cubes;
        }

        int changeSetting(int setting, int value) {
            int previous = valueAt(settings, setting);
            addAt(settings, setting, value - previous);
            sections.arrange(settings[ORDER]);
            return previous;
        }

        void passDay() {
            int setters = settings[SETTERS];
            for (int tray = 0; tray < TRAYS && setters > 0; tray++) {
                if (trays.tonesIn(tray) > 1) {
                    trays.sortOut(tray, settings[TRAY_ROOM]);
                    sorted++;
                    setters--;
                }
            }
            for (int place = 0; place < sections.size; place++) {
                while (setters > 0 && canBeLaid(place)) {
                    layOnce(place);
                    setters--;
                }
            }
            dismissDone();
            sections.arrange(settings[ORDER]);
            day++;
        }

        private boolean canBeLaid(int place) {
            return sections.valueOf(place, WANTS) > 0 && trays.readyOf(sections.valueOf(place, TONE)) > 0;
        }

        private void layOnce(int place) {
            int tone = sections.valueOf(place, TONE);
            int wanted = Math.min(takenFor(sections.valueOf(place, WANTS)), settings[LAID_A_DAY]);
            int got = trays.takeReady(tone, wanted);
            int broken = settings[ONE_BREAKS_OF] > 0 ? got / settings[ONE_BREAKS_OF] : 0;
            sections.lay(place, got - broken);
            addAt(laid, tone, got - broken);
            addAt(swept, tone, broken);
        }

        // Only behind the round: while it goes on, the places must stay as they were ahead of it.
        private void dismissDone() {
            for (int place = sections.size - 1; place >= 0; place--) {
                if (sections.valueOf(place, WANTS) == 0) {
                    countDone(day - sections.valueOf(place, DUE));
                    sections.remove(place);
                }
            }
        }

        private void countDone(int daysLate) {
            done++;
            if (daysLate > 0) {
                late++;
                lateDays += daysLate;
            }
        }

        // Of s cubes s - 1 come, and the one that breaks is the last: it is taken only if more are wanted behind it.
        int takenFor(int cubes) {
            int whole = settings[ONE_BREAKS_OF] - 1;
            return whole < 1 ? cubes : cubes + (cubes - 1) / whole;
        }

        int missingSheets(int tone) {
            int size = settings[SHEET_CUBES];
            int lack = -valueAt(sheets, tone) * size - trays.heldOf(tone);
            for (int place = 0; place < sections.size; place++) {
                if (sections.valueOf(place, TONE) == tone) {
                    lack += takenFor(sections.valueOf(place, WANTS));
                }
            }
            return lack < 1 || size < 1 ? 0 : (lack + size - 1) / size;
        }
    }

    /** The saved states, the oldest one first. */
    private static final class History {
        private final Dome[] saved = new Dome[MOST_SAVED];
        private int size;

        History() {
            for (int index = 0; index < MOST_SAVED; index++) {
                saved[index] = new Dome();
            }
        }

        void save(Dome dome) {
            if (size >= MOST_SAVED) {
                dropOldest();
            }
            Dome slot = slotAt(size);
            if (slot != null) {
                slot.copyFrom(dome);
                size++;
            }
        }

        void restoreTo(Dome dome) {
            Dome slot = slotAt(size - 1);
            if (slot != null) {
                dome.copyFrom(slot);
                size--;
            }
        }

        private Dome slotAt(int index) {
            return index >= 0 && index < MOST_SAVED ? saved[index] : null;
        }

        // The object of the oldest state is used again for the next one, so that no call makes objects.
        private void dropOldest() {
            Dome oldest = saved[0];
            for (int index = 1; index < MOST_SAVED; index++) {
                saved[index - 1] = saved[index];
            }
            saved[MOST_SAVED - 1] = oldest;
            size--;
        }
    }

    /** The buffer, and the sections that were read out of it last. */
    private static final class SectionText {
        private static final int MOST_CODES = 60;
        private static final int FIRST_CODE = 33;
        private static final int LAST_CODE = 126;
        // The shortest part has four characters, and one more between two parts.
        private static final int MOST_PARTS = (MOST_CODES + 1) / 5;

        private static final int AT_START = 0;
        private static final int IN_CUBES = 1;
        private static final int BEHIND_TONE = 2;
        private static final int BEHIND_AT = 3;
        private static final int IN_DAY = 4;

        private final int[] codes = new int[MOST_CODES];
        private int length;
        private final int[] tones = new int[MOST_PARTS];
        private final int[] cubes = new int[MOST_PARTS];
        private final int[] days = new int[MOST_PARTS];
        private int parts;
        private int stage;
        private int partTone;
        private int partCubes;
        private int partDay;

        void erase() {
            length = 0;
        }

        void add(int code) {
            if (length < MOST_CODES) {
                codes[length] = code;
                length++;
            }
        }

        /** Returns the index of the first syntax error, or the length. */
        int read() {
            parts = 0;
            stage = AT_START;
            for (int index = 0; index < length && index < MOST_CODES; index++) {
                if (!accepts(codes[index])) {
                    return index;
                }
            }
            return length;
        }

        /** Returns whether the buffer is complete sections as a text. */
        boolean readSections() {
            if (read() < length || stage != IN_DAY) {
                return false;
            }
            keepPart();
            return true;
        }

        private boolean accepts(int code) {
            switch (stage) {
                case AT_START: return acceptsFirstDigit(code);
                case IN_CUBES: return acceptsInCubes(code);
                case BEHIND_TONE: return acceptsAt(code);
                case BEHIND_AT: return acceptsDayDigit(code);
                default: return acceptsInDay(code);
            }
        }

        private boolean acceptsFirstDigit(int code) {
            if (code < '1' || code > '9') {
                return false;
            }
            partCubes = code - '0';
            stage = IN_CUBES;
            return true;
        }

        private boolean acceptsInCubes(int code) {
            if (code >= 'a' && code < 'a' + TONES) {
                partTone = code - 'a';
                stage = BEHIND_TONE;
                return true;
            }
            int longer = 10 * partCubes + code - '0';
            if (!isDigit(code) || longer > MOST_CUBES) {
                return false;
            }
            partCubes = longer;
            return true;
        }

        private boolean acceptsAt(int code) {
            if (code != '@') {
                return false;
            }
            stage = BEHIND_AT;
            return true;
        }

        private boolean acceptsDayDigit(int code) {
            if (!isDigit(code)) {
                return false;
            }
            partDay = code - '0';
            stage = IN_DAY;
            return true;
        }

        private boolean acceptsInDay(int code) {
            if (code == ';') {
                keepPart();
                stage = AT_START;
                return true;
            }
            int longer = 10 * partDay + code - '0';
            if (!isDigit(code) || partDay == 0 || longer > LAST_SECTION_DAY) {
                return false;
            }
            partDay = longer;
            return true;
        }

        private static boolean isDigit(int code) {
            return code >= '0' && code <= '9';
        }

        private void keepPart() {
            if (parts < MOST_PARTS) {
                tones[parts] = partTone;
                cubes[parts] = partCubes;
                days[parts] = partDay;
                parts++;
            }
        }
    }
}
