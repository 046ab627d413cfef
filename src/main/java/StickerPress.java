/**
 * A press for labels: names brought to a width, numbers as bars, heaps of labels laid on sheets,
 * and each label printed once. The promises stand in the document, DOC.md.
 *
 * <p>All rows are made with the object and used again, so that calls make no objects.
 */
public final class StickerPress {

    public static final int NONE = -1;

    private static final int TAPE_BYTES = 200;
    private static final int FEED_BYTES = 20;

    private static final int FIRST_SIGN = 32;
    private static final int LAST_SIGN = 126;
    private static final int BLANK_WIDTH = 3;
    private static final int SIGN_WIDTH = 5;
    private static final int MOST_SIGN_WIDTH = 20;
    private static final int TEXT_SIGNS = 30;
    private static final int WAY_SIGNS = 60;
    private static final int MOST_WIDTH = 999;
    private static final int SHORTENINGS = 6;
    private static final int SHORTENING_SIGNS = 6;

    private static final int ZERO = '0';
    private static final int MOST_DIGITS = 11;
    private static final int MOST_PAIRS = 6;
    private static final int PAIR_STRIPES = 10;
    private static final int DIGIT_STRIPES = 5;
    private static final int HEAD_STRIPES = 4;
    private static final int TAIL_STRIPES = 3;
    private static final int MOST_STRIPES = HEAD_STRIPES + PAIR_STRIPES * MOST_PAIRS + TAIL_STRIPES;
    private static final int MOST_MEASURED = 99;
    /** Five stripes of each digit, the first one highest; a bit is set if the stripe is wide. */
    private static final int[] DIGIT_CODES = {
        0b00110, 0b10001, 0b01001, 0b11000, 0b00101, 0b10100, 0b01100, 0b00011, 0b10010, 0b01010
    };

    private static final int FAULT_COUNT = 1;
    private static final int FAULT_ENDS = 2;
    private static final int FAULT_DIGIT = 3;
    private static final int FAULT_CHECK = 4;

    private static final int SHEETS = 3;
    private static final int CELLS = 40;
    private static final int ALL_CELLS = SHEETS * CELLS;
    private static final int GROUPS = 6;
    private static final int GROUP_LABELS = 40;
    private static final int HEAPS = 3;
    private static final int LABELS = 200;

    private final Row tape;
    private final Row shown;
    private final Names names;
    private final Stripes stripes;
    private final Labels labels;
    private final Sheets sheets;
    private final Best best;

    public StickerPress() {
        tape = new Row(TAPE_BYTES);
        shown = new Row(MOST_STRIPES);
        names = new Names();
        stripes = new Stripes();
        labels = new Labels();
        sheets = new Sheets();
        best = new Best();
    }

    public boolean wide(int sign, int w) {
        return names.setWidth(sign, w);
    }

    public int feed(int a, int b, int c, int d, int e) {
        if (tape.size() + FEED_BYTES > TAPE_BYTES) {
            return NONE;
        }
        feedBytes(a);
        feedBytes(b);
        feedBytes(c);
        feedBytes(d);
        feedBytes(e);
        return tape.size();
    }

    public boolean end(int n) {
        return tape.cut(n);
    }

    public boolean shorten(int i, int n) {
        boolean told = names.setShortening(i, tape, n);
        tape.clear();
        return told;
    }

    public int fit(int width) {
        int answer = names.fitText(tape, width, shown);
        tape.clear();
        return answer;
    }

    public int used() {
        return names.latestSet();
    }

    public int out(int i) {
        return shown.at(i);
    }

    public boolean ratio(int r) {
        return stripes.setRatio(r);
    }

    public int bars() {
        int answer = stripes.drawBars(tape, shown);
        tape.clear();
        return answer;
    }

    public int read() {
        int answer = stripes.readBars(tape, shown);
        tape.clear();
        return answer;
    }

    public int fault(int what) {
        return stripes.latestFault(what);
    }

    public int take() {
        tape.copyFrom(shown);
        return tape.size();
    }

    public boolean sheet(int s, long free) {
        if (!sheets.replace(s, free)) {
            return false;
        }
        best.forget();
        return true;
    }

    public int come(int g, int n) {
        int first = labels.addLabels(g, n);
        if (first != NONE) {
            best.forget();
        }
        return first;
    }

    public int look(int what) {
        switch (what) {
            case 0:
                return labels.count();
            case 1:
                return labels.allWaiting();
            case 2:
                return sheets.allFree();
            case 3:
                best.refresh(labels, sheets);
                return best.pieces();
            case 4:
                best.refresh(labels, sheets);
                return best.sheetsInHeaps();
            default:
                return NONE;
        }
    }

    public int heap(int g, int what) {
        best.refresh(labels, sheets);
        switch (what) {
            case 0:
                return best.heapOfGroup(g);
            case 1:
                return best.heapOfSheet(g);
            default:
                return NONE;
        }
    }

    public int plan(int s, int c) {
        best.refresh(labels, sheets);
        return best.labelFor(placeOf(s, c));
    }

    public int print(int s) {
        best.refresh(labels, sheets);
        if (!isSheet(s) || !best.exists()) {
            return NONE;
        }
        int count = 0;
        for (int c = 0; c < CELLS; c++) {
            if (printCell(placeOf(s, c))) {
                count++;
            }
        }
        // Not sooner: all cells of the sheet go by one and the same layout.
        best.forget();
        return count;
    }

    public int printed(int s, int c) {
        return sheets.labelIn(placeOf(s, c));
    }

    public int spoil(int s, int c) {
        int place = placeOf(s, c);
        if (!sheets.isGood(place)) {
            return NONE;
        }
        int number = sheets.labelIn(place);
        if (!labels.waitAnew(number)) {
            return NONE;
        }
        sheets.markSpoiled(place);
        best.forget();
        return number;
    }

    public int label(int i, int what) {
        return labels.tell(i, what);
    }

    private void feedBytes(int number) {
        for (int shift = 24; shift >= 0; shift -= 8) {
            tape.add((number >>> shift) & 255);
        }
    }

    private boolean printCell(int place) {
        int number = best.labelFor(place);
        if (number == NONE) {
            return false;
        }
        sheets.put(place, number);
        labels.markPrinted(number);
        return true;
    }

    private static boolean isSheet(int s) {
        return s >= 0 && s < SHEETS;
    }

    private static boolean isGroup(int g) {
        return g >= 0 && g < GROUPS;
    }

    private static boolean isPlace(int place) {
        return place >= 0 && place < ALL_CELLS;
    }

    /** The cells of all sheets count as one row, so that a cell is one number; NONE if there is no such cell. */
    private static int placeOf(int s, int c) {
        if (!isSheet(s) || c < 0 || c >= CELLS) {
            return NONE;
        }
        return s * CELLS + c;
    }

    /** Some numbers one behind the other, up to a bound. */
    private static final class Row {
        private final int[] items;
        private int size;

        Row(int most) {
            items = new int[Math.max(most, 0)];
            size = 0;
        }

        int size() {
            return size;
        }

        int at(int i) {
            if (i < 0 || i >= size) {
                return NONE;
            }
            return items[i];
        }

        void clear() {
            size = 0;
        }

        /** False if the row is full. */
        boolean add(int item) {
            if (size >= items.length) {
                return false;
            }
            items[size] = item;
            size++;
            return true;
        }

        /** False if it can't have them all. */
        boolean addPart(Row other, int start, int end) {
            for (int i = start; i < end; i++) {
                if (!add(other.at(i))) {
                    return false;
                }
            }
            return true;
        }

        void copyFrom(Row other) {
            clear();
            addPart(other, 0, other.size);
        }

        boolean cut(int n) {
            if (n < 0 || n > size) {
                return false;
            }
            size = n;
            return true;
        }

        boolean standsAt(int start, Row part) {
            if (part.size > size - start) {
                return false;
            }
            for (int i = 0; i < part.size; i++) {
                if (at(start + i) != part.at(i)) {
                    return false;
                }
            }
            return true;
        }

        boolean allWithin(int least, int most) {
            for (int i = 0; i < size; i++) {
                if (at(i) < least || at(i) > most) {
                    return false;
                }
            }
            return true;
        }
    }

    /** Widths of signs, shortenings, and texts that are brought to a width by them. */
    private static final class Names {
        private final int[] widths;
        private final Row[] from;
        private final Row[] to;
        private final Row text;
        private final Row next;
        private int told;
        private int latest;

        Names() {
            widths = new int[LAST_SIGN - FIRST_SIGN + 1];
            for (int i = 0; i < widths.length; i++) {
                widths[i] = i == 0 ? BLANK_WIDTH : SIGN_WIDTH;
            }
            from = new Row[SHORTENINGS];
            to = new Row[SHORTENINGS];
            for (int i = 0; i < SHORTENINGS; i++) {
                from[i] = new Row(SHORTENING_SIGNS);
                to[i] = new Row(SHORTENING_SIGNS);
            }
            text = new Row(WAY_SIGNS);
            next = new Row(WAY_SIGNS);
            told = 0;
            latest = NONE;
        }

        boolean setWidth(int sign, int width) {
            if (sign < FIRST_SIGN || sign > LAST_SIGN || width < 1 || width > MOST_SIGN_WIDTH) {
                return false;
            }
            widths[sign - FIRST_SIGN] = width;
            return true;
        }

        boolean setShortening(int i, Row signs, int n) {
            if (i < 0 || i >= SHORTENINGS) {
                return false;
            }
            if (n == 0 && signs.size() == 0) {
                told &= ~(1 << i);
                return true;
            }
            if (!areShortening(signs, n)) {
                return false;
            }
            from[i].clear();
            from[i].addPart(signs, 0, n);
            to[i].clear();
            to[i].addPart(signs, n, signs.size());
            told |= 1 << i;
            return true;
        }

        int latestSet() {
            return latest;
        }

        /** How wide the text is by the best set, which goes to the row; NONE if there is none such. */
        int fitText(Row source, int width, Row result) {
            if (width < 0 || width > MOST_WIDTH || source.size() > TEXT_SIGNS || !areSigns(source)) {
                return NONE;
            }
            int set = bestSet(source, width);
            if (set == NONE) {
                result.clear();
                return NONE;
            }
            latest = set;
            applySet(source, set);
            result.copyFrom(text);
            return textWidth();
        }

        /** Sets come from the least on, so one that is only as good as an earlier one is not taken. */
        private int bestSet(Row source, int width) {
            int found = NONE;
            int fewest = SHORTENINGS;
            int widest = NONE;
            for (int set = 0; set < (1 << SHORTENINGS); set++) {
                int count = Integer.bitCount(set);
                if ((set & ~told) != 0 || count > fewest || !applySet(source, set)) {
                    continue;
                }
                int reached = textWidth();
                if (reached <= width && (count < fewest || reached > widest)) {
                    found = set;
                    fewest = count;
                    widest = reached;
                }
            }
            return found;
        }

        /** Leaves the source by the set in the text; false if there are too many signs on the way. */
        private boolean applySet(Row source, int set) {
            text.copyFrom(source);
            for (int i = 0; i < SHORTENINGS; i++) {
                if (((set >> i) & 1) == 1) {
                    if (!applyOne(from[i], to[i])) {
                        return false;
                    }
                    text.copyFrom(next);
                }
            }
            return true;
        }

        private boolean applyOne(Row old, Row young) {
            next.clear();
            int behind = 0;
            for (int at = 0; at < text.size(); at++) {
                if (at < behind) {
                    continue;
                }
                boolean room;
                if (text.standsAt(at, old)) {
                    room = next.addPart(young, 0, young.size());
                    behind = at + old.size();
                } else {
                    room = next.add(text.at(at));
                }
                if (!room) {
                    return false;
                }
            }
            return true;
        }

        private int textWidth() {
            int sum = 0;
            for (int i = 0; i < text.size(); i++) {
                int sign = text.at(i);
                if (sign >= FIRST_SIGN && sign <= LAST_SIGN) {
                    sum += widths[sign - FIRST_SIGN];
                }
            }
            return sum;
        }

        private static boolean areShortening(Row signs, int n) {
            return n >= 1 && n <= SHORTENING_SIGNS && n <= signs.size()
                && signs.size() - n <= SHORTENING_SIGNS && areSigns(signs);
        }

        private static boolean areSigns(Row bytes) {
            return bytes.allWithin(FIRST_SIGN, LAST_SIGN);
        }
    }

    /** Numbers as bars, and bars that are read. */
    private static final class Stripes {
        private final Row digits;
        private final Row wides;
        private final Reading ahead;
        private final Reading behind;
        private int wideStripe;
        private int fault;
        private int place;
        private boolean fromBehind;

        Stripes() {
            digits = new Row(2 * MOST_PAIRS);
            wides = new Row(MOST_STRIPES);
            ahead = new Reading(false);
            behind = new Reading(true);
            wideStripe = 2;
            fault = 0;
            place = NONE;
            fromBehind = false;
        }

        boolean setRatio(int r) {
            if (r != 2 && r != 3) {
                return false;
            }
            wideStripe = r;
            return true;
        }

        int drawBars(Row source, Row result) {
            if (source.size() < 1 || source.size() > MOST_DIGITS || !source.allWithin(ZERO, ZERO + 9)) {
                return NONE;
            }
            takeDigits(source);
            result.clear();
            for (int i = 0; i < HEAD_STRIPES; i++) {
                result.add(1);
            }
            for (int i = 0; i < digits.size(); i += 2) {
                drawPair(codeOf(digits.at(i)), codeOf(digits.at(i + 1)), result);
            }
            result.add(wideStripe);
            result.add(1);
            result.add(1);
            return result.size();
        }

        int readBars(Row measured, Row result) {
            if (!canBeBars(measured)) {
                keepFault(FAULT_COUNT, 0);
                return NONE;
            }
            findWides(measured);
            if (ahead.decode(wides)) {
                return keepDigits(ahead, false, result);
            }
            if (behind.decode(wides)) {
                return keepDigits(behind, true, result);
            }
            keepFault(ahead.fault, ahead.place);
            return NONE;
        }

        int latestFault(int what) {
            switch (what) {
                case 0:
                    return fault;
                case 1:
                    return place;
                case 2:
                    return fromBehind ? 1 : 0;
                default:
                    return NONE;
            }
        }

        private void takeDigits(Row source) {
            digits.clear();
            // With the check an even number of told digits becomes an odd one.
            if (source.size() % 2 == 0) {
                digits.add(0);
            }
            for (int i = 0; i < source.size(); i++) {
                digits.add(source.at(i) - ZERO);
            }
            // A 0 ahead adds nothing to the sum.
            digits.add(checkOf(digits, digits.size()));
        }

        private void drawPair(int black, int white, Row result) {
            for (int bit = DIGIT_STRIPES - 1; bit >= 0; bit--) {
                result.add(((black >> bit) & 1) == 1 ? wideStripe : 1);
                result.add(((white >> bit) & 1) == 1 ? wideStripe : 1);
            }
        }

        private void findWides(Row measured) {
            int least = MOST_MEASURED;
            int greatest = 1;
            for (int i = 0; i < measured.size(); i++) {
                least = Math.min(least, measured.at(i));
                greatest = Math.max(greatest, measured.at(i));
            }
            wides.clear();
            for (int i = 0; i < measured.size(); i++) {
                wides.add(2 * measured.at(i) > least + greatest ? 1 : 0);
            }
        }

        private int keepDigits(Reading reading, boolean backward, Row result) {
            fault = 0;
            place = NONE;
            fromBehind = backward;
            result.clear();
            for (int i = 0; i < reading.digits.size(); i++) {
                result.add(ZERO + reading.digits.at(i));
            }
            return result.size();
        }

        private void keepFault(int kind, int where) {
            fault = kind;
            place = where;
            fromBehind = false;
        }

        private static boolean canBeBars(Row measured) {
            int ofPairs = measured.size() - HEAD_STRIPES - TAIL_STRIPES;
            return ofPairs >= PAIR_STRIPES && ofPairs <= PAIR_STRIPES * MOST_PAIRS
                && ofPairs % PAIR_STRIPES == 0 && measured.allWithin(1, MOST_MEASURED);
        }

        private static int codeOf(int digit) {
            return digit >= 0 && digit < DIGIT_CODES.length ? DIGIT_CODES[digit] : 0;
        }

        /** The check of the first n digits. */
        private static int checkOf(Row row, int n) {
            int sum = 0;
            int weight = 3;
            for (int i = n - 1; i >= 0; i--) {
                sum += weight * row.at(i);
                weight = 4 - weight;
            }
            return (10 - sum % 10) % 10;
        }
    }

    /** What stripes say that are read in one direction: digits, or a fault and its place. */
    private static final class Reading {
        private final boolean backward;
        private final Row digits;
        private int fault;
        private int place;

        Reading(boolean backward) {
            this.backward = backward;
            digits = new Row(2 * MOST_PAIRS);
            fault = 0;
            place = NONE;
        }

        /** False leaves the fault and its place. */
        boolean decode(Row wides) {
            digits.clear();
            if (!endsStand(wides)) {
                return refuse(FAULT_ENDS, 0);
            }
            int last = wides.size() - TAIL_STRIPES - PAIR_STRIPES;
            for (int start = HEAD_STRIPES; start <= last; start += PAIR_STRIPES) {
                int first = digits.size();
                if (!addDigit(wides, start) || !addDigit(wides, start + 1)) {
                    return refuse(FAULT_DIGIT, first);
                }
            }
            int count = digits.size();
            if (digits.at(count - 1) != Stripes.checkOf(digits, count - 1)) {
                return refuse(FAULT_CHECK, 0);
            }
            return true;
        }

        private boolean refuse(int kind, int where) {
            fault = kind;
            place = where;
            return false;
        }

        private int stripe(Row wides, int i) {
            return wides.at(backward ? wides.size() - 1 - i : i);
        }

        private boolean endsStand(Row wides) {
            for (int i = 0; i < HEAD_STRIPES; i++) {
                if (stripe(wides, i) != 0) {
                    return false;
                }
            }
            int tail = wides.size() - TAIL_STRIPES;
            return stripe(wides, tail) == 1 && stripe(wides, tail + 1) == 0 && stripe(wides, tail + 2) == 0;
        }

        /** The digit of every other stripe from the start on; false if these five are none. */
        private boolean addDigit(Row wides, int start) {
            int code = 0;
            for (int i = 0; i < DIGIT_STRIPES; i++) {
                code = code * 2 + stripe(wides, start + 2 * i);
            }
            for (int digit = 0; digit < DIGIT_CODES.length; digit++) {
                if (DIGIT_CODES[digit] == code) {
                    return digits.add(digit);
                }
            }
            return false;
        }
    }

    /** The labels that came: their groups, how often they were printed, and which wait. */
    private static final class Labels {
        private final int[] groups;
        private final int[] times;
        private final boolean[] waits;
        private final int[] waiting;
        private int count;

        Labels() {
            groups = new int[LABELS];
            times = new int[LABELS];
            waits = new boolean[LABELS];
            waiting = new int[GROUPS];
            count = 0;
        }

        int count() {
            return count;
        }

        int waitingIn(int g) {
            return isGroup(g) ? waiting[g] : 0;
        }

        int allWaiting() {
            int sum = 0;
            for (int g = 0; g < GROUPS; g++) {
                sum += waiting[g];
            }
            return sum;
        }

        /** The number of the first one; NONE if they can't come. */
        int addLabels(int g, int n) {
            if (!isGroup(g) || n < 1 || n > GROUP_LABELS) {
                return NONE;
            }
            if (waitingIn(g) + n > GROUP_LABELS || count + n > LABELS) {
                return NONE;
            }
            int first = count;
            for (int i = first; i < first + n; i++) {
                groups[i] = g;
                waits[i] = true;
            }
            changeWaiting(g, n);
            count += n;
            return first;
        }

        boolean waitsIn(int i, int g) {
            return isLabel(i) && waits[i] && groups[i] == g;
        }

        void markPrinted(int i) {
            if (isLabel(i) && waits[i]) {
                waits[i] = false;
                changeWaiting(groups[i], -1);
                times[i]++;
            }
        }

        /** False if its group has as many that wait as it may have. */
        boolean waitAnew(int i) {
            if (!isLabel(i) || waits[i] || waitingIn(groups[i]) >= GROUP_LABELS) {
                return false;
            }
            waits[i] = true;
            changeWaiting(groups[i], 1);
            return true;
        }

        int tell(int i, int what) {
            if (!isLabel(i)) {
                return NONE;
            }
            switch (what) {
                case 0:
                    return groups[i];
                case 1:
                    return times[i];
                case 2:
                    return waits[i] ? 1 : 0;
                default:
                    return NONE;
            }
        }

        private boolean isLabel(int i) {
            return i >= 0 && i < count;
        }

        private void changeWaiting(int g, int by) {
            if (isGroup(g)) {
                waiting[g] += by;
            }
        }
    }

    /** Which cells are free, what is printed in the others, and what of that is spoiled. */
    private static final class Sheets {
        private final long[] free;
        private final int[] numbers;
        private final boolean[] spoiled;

        Sheets() {
            free = new long[SHEETS];
            numbers = new int[ALL_CELLS];
            spoiled = new boolean[ALL_CELLS];
            for (int place = 0; place < ALL_CELLS; place++) {
                numbers[place] = NONE;
            }
        }

        boolean replace(int s, long cells) {
            if (!isSheet(s) || cells < 0 || (cells >> CELLS) != 0) {
                return false;
            }
            free[s] = cells;
            for (int place = s * CELLS; place < (s + 1) * CELLS; place++) {
                numbers[place] = NONE;
                spoiled[place] = false;
            }
            return true;
        }

        int freeIn(int s) {
            return isSheet(s) ? Long.bitCount(free[s]) : 0;
        }

        int allFree() {
            int sum = 0;
            for (int s = 0; s < SHEETS; s++) {
                sum += freeIn(s);
            }
            return sum;
        }

        boolean isFree(int place) {
            return isPlace(place) && ((free[place / CELLS] >> (place % CELLS)) & 1) == 1;
        }

        void put(int place, int number) {
            if (isPlace(place)) {
                free[place / CELLS] &= ~(1L << (place % CELLS));
                numbers[place] = number;
            }
        }

        int labelIn(int place) {
            return isPlace(place) ? numbers[place] : NONE;
        }

        /** Whether a label is printed there that was not spoiled. */
        boolean isGood(int place) {
            return labelIn(place) != NONE && !spoiled[place];
        }

        void markSpoiled(int place) {
            if (isPlace(place)) {
                spoiled[place] = true;
            }
        }
    }

    /**
     * The best layout of the labels that wait, sought only when it is asked for and something has changed.
     *
     * <p>The heaps of all groups, and those of all sheets, are one number each: two bits a group or sheet,
     * number 0 highest, and 3 for a sheet in no heap. So a lesser number is an earlier layout.
     */
    private static final class Best {
        private static final int NO_HEAP = 3;
        private static final int SHEET_CODES = 1 << (2 * SHEETS);
        private static final int GROUP_CODES = 1 << (2 * GROUPS);
        private static final int NO_LAYOUT = 1 << 20;

        private final int[] counts;
        private final int[] cells;
        private final int[] room;
        private final int[] starts;
        private final int[] planned;
        private int waiting;
        private boolean fresh;
        private int rank;
        private int groupCode;
        private int sheetCode;

        Best() {
            counts = new int[GROUPS];
            cells = new int[SHEETS];
            room = new int[HEAPS];
            starts = new int[HEAPS];
            planned = new int[ALL_CELLS];
            waiting = 0;
            fresh = false;
            rank = NO_LAYOUT;
            groupCode = GROUP_CODES;
            sheetCode = SHEET_CODES;
        }

        void forget() {
            fresh = false;
        }

        /** Must be called ahead of the questions below, which tell of the layout that was found last. */
        void refresh(Labels labels, Sheets sheets) {
            if (!fresh) {
                countAll(labels, sheets);
                seek();
                layAll(labels, sheets);
                fresh = true;
            }
        }

        boolean exists() {
            return rank != NO_LAYOUT;
        }

        int pieces() {
            if (!exists()) {
                return NONE;
            }
            int sum = rank / (SHEETS + 1);
            for (int g = 0; g < GROUPS; g++) {
                if (counts[g] > 0) {
                    sum++;
                }
            }
            return sum;
        }

        int sheetsInHeaps() {
            return exists() ? rank % (SHEETS + 1) : NONE;
        }

        int heapOfGroup(int g) {
            return isGroup(g) && exists() ? groupHeap(groupCode, g) : NONE;
        }

        int heapOfSheet(int s) {
            if (!isSheet(s) || !exists()) {
                return NONE;
            }
            int heap = sheetHeap(sheetCode, s);
            return heap == NO_HEAP ? NONE : heap;
        }

        int labelFor(int place) {
            return isPlace(place) && exists() ? planned[place] : NONE;
        }

        private void countAll(Labels labels, Sheets sheets) {
            for (int g = 0; g < GROUPS; g++) {
                counts[g] = labels.waitingIn(g);
            }
            for (int s = 0; s < SHEETS; s++) {
                cells[s] = sheets.freeIn(s);
            }
            waiting = labels.allWaiting();
        }

        private void seek() {
            rank = NO_LAYOUT;
            groupCode = GROUP_CODES;
            sheetCode = SHEET_CODES;
            for (int code = 0; code < SHEET_CODES; code++) {
                trySheets(code);
            }
        }

        /** Codes come from the least on, so one that is only as good as an earlier one is not taken. */
        private void trySheets(int code) {
            int tried = rankOf(code);
            if (tried > rank || !makeRoom(code)) {
                return;
            }
            int groups = leastHeaps(counts, room, 0, 0);
            if (groups != NONE && (tried < rank || groups < groupCode)) {
                rank = tried;
                groupCode = groups;
                sheetCode = code;
            }
        }

        /** False if the labels are more than the cells of all heaps. */
        private boolean makeRoom(int code) {
            for (int h = 0; h < HEAPS; h++) {
                room[h] = 0;
            }
            int all = 0;
            for (int s = 0; s < SHEETS; s++) {
                int heap = sheetHeap(code, s);
                if (heap < HEAPS) {
                    room[heap] += cells[s];
                    all += cells[s];
                }
            }
            return all >= waiting;
        }

        private void layAll(Labels labels, Sheets sheets) {
            for (int place = 0; place < ALL_CELLS; place++) {
                planned[place] = NONE;
            }
            if (!exists()) {
                return;
            }
            for (int h = 0; h < HEAPS; h++) {
                starts[h] = 0;
            }
            for (int g = 0; g < GROUPS; g++) {
                layGroup(g, labels, sheets);
            }
        }

        private void layGroup(int g, Labels labels, Sheets sheets) {
            if (counts[g] == 0) {
                return;
            }
            int heap = groupHeap(groupCode, g);
            for (int i = 0; i < labels.count(); i++) {
                if (labels.waitsIn(i, g)) {
                    layLabel(i, heap, sheets);
                }
            }
        }

        private void layLabel(int number, int heap, Sheets sheets) {
            if (heap >= HEAPS) {
                return;
            }
            for (int place = starts[heap]; place < ALL_CELLS; place++) {
                if (sheetHeap(sheetCode, place / CELLS) == heap && sheets.isFree(place)) {
                    planned[place] = number;
                    starts[heap] = place + 1;
                    return;
                }
            }
        }

        /** What the sheets add to the pieces comes first, then how many sheets are in heaps. */
        private static int rankOf(int code) {
            int inHeaps = 0;
            int heaps = 0;
            for (int s = 0; s < SHEETS; s++) {
                int heap = sheetHeap(code, s);
                if (heap != NO_HEAP) {
                    inHeaps++;
                    heaps |= 1 << heap;
                }
            }
            return (inHeaps - Integer.bitCount(heaps)) * (SHEETS + 1) + inHeaps;
        }

        /**
         * The least heaps of the groups from g on for which there is room; NONE if there are none.
         *
         * <p>Heaps are opened in their order alone: if other heaps do, so do these with the names of the heaps
         * (and of those of the sheets) changed, and that layout is the earlier one.
         */
        private static int leastHeaps(int[] counts, int[] room, int g, int opened) {
            if (g >= GROUPS) {
                return 0;
            }
            if (counts[g] == 0) {
                return leastHeaps(counts, room, g + 1, opened);
            }
            for (int h = 0; h < HEAPS && h <= opened; h++) {
                if (room[h] < counts[g]) {
                    continue;
                }
                room[h] -= counts[g];
                int rest = leastHeaps(counts, room, g + 1, Math.max(opened, h + 1));
                room[h] += counts[g];
                if (rest != NONE) {
                    return (h << groupShift(g)) | rest;
                }
            }
            return NONE;
        }

        private static int groupHeap(int code, int g) {
            return (code >> groupShift(g)) & 3;
        }

        private static int groupShift(int g) {
            return 2 * (GROUPS - 1 - g);
        }

        private static int sheetHeap(int code, int s) {
            return (code >> (2 * (SHEETS - 1 - s))) & 3;
        }
    }
}
