/** A deck of cards, cuts, riffles and turnings, and marks; DOC.md tells what each call answers. */
public final class CutMarks {
    public static final int NO_SUCH = -1, BAD_VALUE = -2, BAD_TEXT = -3, TOO_MANY = -4, NOT_POSSIBLE = -5, NONE = -6;
    public static final int SIZE = 0;

    private static final int LEAST_SIZE = 2, MOST_SIZE = 16, FIRST_SIZE = 8;
    private static final int MOST_MARKS = 6, MOST_UNDO = 6, SLOTS = 2, MOST_POWER = 999;
    private static final int PAD_LENGTH = 80, PUT_LENGTH = 8, LEAST_CODE = 33, MOST_CODE = 126;
    private static final int MOST_STEPS = 5;

    private final Table table = new Table();
    private final Shelf history = new Shelf(MOST_UNDO);
    private final Shelf slots = new Shelf(SLOTS);
    private final Cycles cycles = new Cycles();
    private final MarkReader reader = new MarkReader();
    private final char[] pad = new char[PAD_LENGTH];
    private int padLength = 0;
    private int undoable = 0;
    private int nextKept = 0;

    public CutMarks() {
    }

    // ---- changes

    public int set(int value) {
        if (value < LEAST_SIZE || value > MOST_SIZE) {
            return BAD_VALUE;
        }
        int previous = table.size;
        keepForUndo();
        table.layInOrder(value);
        return previous;
    }

    public int mark() {
        if (readPad() != NONE) {
            return BAD_TEXT;
        }
        int number = comes(reader.moves);
        if (number != TOO_MANY) {
            padLength = 0;
        }
        return number;
    }

    public int product(int first, int second) {
        if (!table.hasMark(first) || !table.hasMark(second)) {
            return NO_SUCH;
        }
        return comes(Moves.then(table.movesOf(first), table.movesOf(second)));
    }

    public int power(int mark, int n) {
        if (!table.hasMark(mark)) {
            return NO_SUCH;
        }
        if (!isPower(n)) {
            return BAD_VALUE;
        }
        return comes(Moves.times(table.movesOf(mark), n));
    }

    public int trick() {
        return comes(table.trick);
    }

    public int drop(int mark) {
        if (!table.hasMark(mark)) {
            return NO_SUCH;
        }
        keepForUndo();
        table.removeMark(mark);
        return table.markCount;
    }

    public int play(int mark) {
        if (!table.hasMark(mark)) {
            return NO_SUCH;
        }
        return moveDeck(table.movesOf(mark));
    }

    public int cut(int k) {
        if (!table.hasPlace(k)) {
            return BAD_VALUE;
        }
        return moveDeck(Shuffles.cutBy(k, table.size));
    }

    public int riffle(int inner) {
        if (inner != 0 && inner != 1) {
            return BAD_VALUE;
        }
        return moveDeck(Shuffles.stepBy(inner == 1 ? Shuffles.INNER_RIFFLE : Shuffles.OUTER_RIFFLE, table.size));
    }

    public int turn() {
        return moveDeck(Shuffles.stepBy(Shuffles.TURN, table.size));
    }

    public int restart() {
        int moved = placesMoved();
        keepForUndo();
        table.trick = Moves.STAY;
        return moved;
    }

    // ---- what there is

    public int at(int place) {
        return table.hasPlace(place) ? Moves.from(table.places, place) : NO_SUCH;
    }

    public int where(int card) {
        return table.hasPlace(card) ? Moves.to(table.places, card) : NO_SUCH;
    }

    public int of(int mark, int what) {
        if (!isMarkOrTrick(mark)) {
            return NO_SUCH;
        }
        long moves = markOrTrick(mark);
        cycles.tell(moves, table.size);
        switch (what) {
            case 0:
                return cycles.order();
            case 1:
                return cycles.howMany();
            case 2:
                return Moves.fixedPlaces(moves, table.size);
            case 3:
                return cycles.longest();
            case 4:
                return (table.size - cycles.howMany()) % 2 == 0 ? 2 : 0;
            case 5:
                return cutsThatStay(moves);
            case 6:
                return table.lowestMark(Moves.inverse(moves));
            default:
                return BAD_VALUE;
        }
    }

    public int image(int mark, int n, int place) {
        if (!isMarkOrTrick(mark) || !table.hasPlace(place)) {
            return NO_SUCH;
        }
        if (!isPower(n)) {
            return BAD_VALUE;
        }
        return Moves.toAfter(markOrTrick(mark), n, place);
    }

    public long commuting(int mark) {
        if (!isMarkOrTrick(mark)) {
            return NO_SUCH;
        }
        cycles.tell(markOrTrick(mark), table.size);
        return cycles.marksThatCommute();
    }

    public int commute(int mark, int other) {
        if (!isMarkOrTrick(mark) || !isMarkOrTrick(other)) {
            return NO_SUCH;
        }
        long one = markOrTrick(mark);
        long two = markOrTrick(other);
        return Moves.then(one, two) == Moves.then(two, one) ? 1 : 0;
    }

    public int count(int what) {
        switch (what) {
            case 0:
                return table.size;
            case 1:
                return table.markCount;
            case 2:
                return Moves.fixedPlaces(table.places, table.size);
            case 3:
                return table.places == Moves.STAY ? 1 : 0;
            case 4:
                return placesMoved();
            case 5:
                return padLength;
            case 6:
                return undoable;
            default:
                return BAD_VALUE;
        }
    }

    public long spread() {
        double sum = 0.0;
        for (int place = 0; place < table.size; place++) {
            int difference = Moves.from(table.places, place) - place;
            sum = sum + (double) (difference < 0 ? -difference : difference);
        }
        return Bits.ofDouble(table.size > 0 ? sum / (double) table.size : 0.0);
    }

    public int share() {
        int inPlace = Integer.bitCount(Moves.fixedPlaces(table.places, table.size));
        return Bits.ofShare(table.size > 0 ? (float) inPlace / (float) table.size : 0.0f);
    }

    // ---- what if; nothing changes

    public int byCut(int mark, int k, int place) {
        if (!table.hasMark(mark) || !table.hasPlace(place)) {
            return NO_SUCH;
        }
        if (!table.hasPlace(k)) {
            return BAD_VALUE;
        }
        return Moves.to(Shuffles.becomesBy(table.movesOf(mark), k, table.size), place);
    }

    public int becomes(int mark, int k) {
        if (!table.hasMark(mark)) {
            return NO_SUCH;
        }
        if (!table.hasPlace(k)) {
            return BAD_VALUE;
        }
        return table.lowestMark(Shuffles.becomesBy(table.movesOf(mark), k, table.size));
    }

    public int ordersIn(int mark) {
        if (!table.hasMark(mark)) {
            return NO_SUCH;
        }
        long moves = table.movesOf(mark);
        long places = table.places;
        cycles.tell(moves, table.size);
        int order = cycles.order();
        for (int times = 0; times < order; times++) {
            if (places == Moves.STAY) {
                return times;
            }
            places = Moves.then(places, moves);
        }
        return NONE;
    }

    public int fewestSteps() {
        for (int steps = 0; steps <= MOST_STEPS; steps++) {
            if (lowestWay(steps) != NONE) {
                return steps;
            }
        }
        return NONE;
    }

    public int firstStep() {
        int steps = fewestSteps();
        return steps > 0 ? stepOfWay(lowestWay(steps), steps, 0) : NONE;
    }

    // ---- texts

    public int put(long characters) {
        int length = charactersIn(characters);
        if (length == 0) {
            return BAD_VALUE;
        }
        if (padLength + length > PAD_LENGTH) {
            return TOO_MANY;
        }
        for (int behind = length - 1; behind >= 0; behind--) {
            append((char) codeAt(characters, behind));
        }
        return padLength;
    }

    public int wipe() {
        int length = padLength;
        padLength = 0;
        return length;
    }

    public int fault() {
        return readPad();
    }

    // ---- undo, saving

    public int undo() {
        if (undoable == 0) {
            return NOT_POSSIBLE;
        }
        nextKept = nextKept == 0 ? MOST_UNDO - 1 : nextKept - 1;
        history.bring(nextKept, table);
        undoable--;
        return undoable;
    }

    public int save(int slot) {
        if (!slots.hasPlace(slot)) {
            return BAD_VALUE;
        }
        slots.keep(slot, table);
        return table.markCount;
    }

    public int restore(int slot) {
        if (!slots.hasPlace(slot)) {
            return BAD_VALUE;
        }
        if (!slots.isFull(slot)) {
            return NOT_POSSIBLE;
        }
        keepForUndo();
        slots.bring(slot, table);
        return table.markCount;
    }

    // ---- helpers

    /** Each change calls this once, when no error applies any more and nothing is different yet. */
    private void keepForUndo() {
        history.keep(nextKept, table);
        nextKept = nextKept + 1 == MOST_UNDO ? 0 : nextKept + 1;
        if (undoable < MOST_UNDO) {
            undoable++;
        }
    }

    /** A mark comes as a change: its number, or TOO_MANY. */
    private int comes(long moves) {
        if (table.markCount >= MOST_MARKS) {
            return TOO_MANY;
        }
        keepForUndo();
        return table.addMark(moves);
    }

    /** The deck is moved as a change: the card on top then. */
    private int moveDeck(long moves) {
        keepForUndo();
        table.places = Moves.then(table.places, moves);
        table.trick = Moves.then(table.trick, moves);
        return Moves.from(table.places, 0);
    }

    private int placesMoved() {
        return table.size - Integer.bitCount(Moves.fixedPlaces(table.trick, table.size));
    }

    private boolean isMarkOrTrick(int mark) {
        return mark == NONE || table.hasMark(mark);
    }

    private long markOrTrick(int mark) {
        return mark == NONE ? table.trick : table.movesOf(mark);
    }

    private static boolean isPower(int n) {
        return n >= -MOST_POWER && n <= MOST_POWER;
    }

    /** A mark commutes with a cut just if it becomes itself by that cut. */
    private int cutsThatStay(long moves) {
        int cuts = 0;
        for (int k = 0; k < table.size; k++) {
            if (Shuffles.becomesBy(moves, k, table.size) == moves) {
                cuts = cuts | 1 << k;
            }
        }
        return cuts;
    }

    /**
     * The lowest way of that many steps that orders the deck, or NONE. A way is a number that has a step in
     * each two bits, the first one highest: so the lowest way also has the lowest first step.
     */
    private int lowestWay(int steps) {
        int ways = 1 << 2 * steps;
        for (int way = 0; way < ways; way++) {
            if (ordersDeck(way, steps)) {
                return way;
            }
        }
        return NONE;
    }

    /** Follows card after card, since most ways fail with the first one. */
    private boolean ordersDeck(int way, int steps) {
        for (int card = 0; card < table.size; card++) {
            int place = Moves.to(table.places, card);
            for (int step = 0; step < steps; step++) {
                place = Shuffles.stepTo(stepOfWay(way, steps, step), place, table.size);
            }
            if (place != card) {
                return false;
            }
        }
        return true;
    }

    private static int stepOfWay(int way, int steps, int step) {
        return way >> 2 * (steps - 1 - step) & 3;
    }

    /** How many characters a number gives; 0 if it is not as it has to be. */
    private static int charactersIn(long characters) {
        int length = 0;
        while (length < PUT_LENGTH && codeAt(characters, length) != 0) {
            int code = codeAt(characters, length);
            if (code < LEAST_CODE || code > MOST_CODE) {
                return 0;
            }
            length++;
        }
        // a shift by all 64 bits would shift nothing
        return length == PUT_LENGTH || characters >>> 8 * length == 0 ? length : 0;
    }

    private static int codeAt(long characters, int behind) {
        return (int) (characters >>> 8 * behind) & 255;
    }

    private void append(char character) {
        if (padLength >= 0 && padLength < pad.length) {
            pad[padLength] = character;
            padLength++;
        }
    }

    /** Reads the pad: its fault, or NONE, and then the reader has the mark. */
    private int readPad() {
        reader.begin(table.size);
        for (int i = 0; i < padLength && i < pad.length; i++) {
            if (!reader.takes(pad[i])) {
                return i;
            }
        }
        return reader.mayEnd() ? NONE : padLength;
    }

    /**
     * Marks as numbers: four bits for each of 16 places tell where its card goes. Places beyond the deck stay;
     * so two marks are the same just if their numbers are, and no call has to make an array.
     */
    private static final class Moves {
        static final long STAY = 0xFEDCBA9876543210L;

        static int to(long moves, int place) {
            return (int) (moves >>> 4 * place) & 15;
        }

        static int from(long moves, int target) {
            for (int place = 0; place < MOST_SIZE; place++) {
                if (to(moves, place) == target) {
                    return place;
                }
            }
            return 0;
        }

        static long with(long moves, int place, int target) {
            long others = moves & ~(15L << 4 * place);
            return others | (long) (target & 15) << 4 * place;
        }

        static long then(long first, long second) {
            long both = 0;
            for (int place = 0; place < MOST_SIZE; place++) {
                both = with(both, place, to(second, to(first, place)));
            }
            return both;
        }

        static long inverse(long moves) {
            long back = 0;
            for (int place = 0; place < MOST_SIZE; place++) {
                back = with(back, to(moves, place), place);
            }
            return back;
        }

        static long times(long moves, int n) {
            long all = 0;
            for (int place = 0; place < MOST_SIZE; place++) {
                all = with(all, place, toAfter(moves, n, place));
            }
            return all;
        }

        static int toAfter(long moves, int n, int place) {
            int length = cycleLength(moves, place);
            int left = length > 0 ? Math.floorMod(n, length) : 0;
            int now = place;
            for (int i = 0; i < left; i++) {
                now = to(moves, now);
            }
            return now;
        }

        static int cycleLength(long moves, int place) {
            int length = 1;
            int now = to(moves, place);
            while (now != place && length < MOST_SIZE) {
                now = to(moves, now);
                length++;
            }
            return length;
        }

        static int fixedPlaces(long moves, int size) {
            int fixed = 0;
            for (int place = 0; place < size; place++) {
                if (to(moves, place) == place) {
                    fixed = fixed | 1 << place;
                }
            }
            return fixed;
        }
    }

    /** The cuts, riffles and turnings of a deck. */
    private static final class Shuffles {
        static final int CUT_BY_1 = 0, OUTER_RIFFLE = 1, INNER_RIFFLE = 2, TURN = 3;

        static int cutTo(int k, int place, int size) {
            return place < k ? place - k + size : place - k;
        }

        static int riffleTo(boolean inner, int place, int size) {
            int upper = inner ? size / 2 : (size + 1) / 2;
            int ahead = inner ? 1 : 0;
            return place < upper ? 2 * place + ahead : 2 * (place - upper) + 1 - ahead;
        }

        static int stepTo(int step, int place, int size) {
            switch (step) {
                case CUT_BY_1:
                    return cutTo(1, place, size);
                case OUTER_RIFFLE:
                    return riffleTo(false, place, size);
                case INNER_RIFFLE:
                    return riffleTo(true, place, size);
                default:
                    return size - 1 - place;
            }
        }

        static long cutBy(int k, int size) {
            long moves = Moves.STAY;
            for (int place = 0; place < size; place++) {
                moves = Moves.with(moves, place, cutTo(k, place, size));
            }
            return moves;
        }

        static long stepBy(int step, int size) {
            long moves = Moves.STAY;
            for (int place = 0; place < size; place++) {
                moves = Moves.with(moves, place, stepTo(step, place, size));
            }
            return moves;
        }

        /** Where the mark brings a place to another one, this brings the first one's place by the cut to the other's. */
        static long becomesBy(long mark, int k, int size) {
            long moves = Moves.STAY;
            for (int place = 0; place < size; place++) {
                moves = Moves.with(moves, cutTo(k, place, size), cutTo(k, Moves.to(mark, place), size));
            }
            return moves;
        }
    }

    /** The bits of a number, as LANGUAGE.md leaves the library's own calls for them out. */
    private static final class Bits {
        private static final int DOUBLE_BIAS = 1023, DOUBLE_DIGITS = 52;
        private static final int FLOAT_BIAS = 127, FLOAT_DIGITS = 23;

        /** Of a double of 0 or more. */
        static long ofDouble(double value) {
            if (!(value > 0.0)) {
                return 0L;
            }
            double part = value;
            int exponent = 0;
            while (part >= 2.0 && exponent < DOUBLE_BIAS) {
                part = part / 2.0;
                exponent++;
            }
            while (part < 1.0 && exponent > 1 - DOUBLE_BIAS) {
                part = part * 2.0;
                exponent--;
            }
            long digits = (long) ((part - 1.0) * (double) (1L << DOUBLE_DIGITS));
            return (long) (exponent + DOUBLE_BIAS) << DOUBLE_DIGITS | digits;
        }

        /** Of a float from 0 to 1, as a share is. */
        static int ofShare(float value) {
            if (!(value > 0.0f)) {
                return 0;
            }
            float part = value;
            int exponent = 0;
            while (part < 1.0f && exponent > 1 - FLOAT_BIAS) {
                part = part * 2.0f;
                exponent--;
            }
            int digits = (int) ((part - 1.0f) * (float) (1 << FLOAT_DIGITS));
            return exponent + FLOAT_BIAS << FLOAT_DIGITS | digits;
        }
    }

    /** How many cycles of each length a mark has; one row serves all calls. */
    private static final class Cycles {
        private final int[] counts = new int[MOST_SIZE + 1];

        void tell(long moves, int size) {
            for (int length = 0; length < counts.length; length++) {
                counts[length] = 0;
            }
            int seen = 0;
            for (int place = 0; place < size; place++) {
                if ((seen >> place & 1) == 0) {
                    int length = Moves.cycleLength(moves, place);
                    int now = place;
                    for (int i = 0; i < length; i++) {
                        seen = seen | 1 << now;
                        now = Moves.to(moves, now);
                    }
                    add(length);
                }
            }
        }

        private void add(int length) {
            if (length >= 0 && length < counts.length) {
                counts[length]++;
            }
        }

        int howMany() {
            int all = 0;
            for (int length = 1; length < counts.length; length++) {
                all = all + counts[length];
            }
            return all;
        }

        int longest() {
            int longest = 0;
            for (int length = 1; length < counts.length; length++) {
                if (counts[length] > 0) {
                    longest = length;
                }
            }
            return longest;
        }

        int order() {
            int order = 1;
            for (int length = 1; length < counts.length; length++) {
                if (counts[length] > 0) {
                    order = leastMultiple(order, length);
                }
            }
            return order;
        }

        /** The least number above 0 that both divide. */
        private static int leastMultiple(int one, int other) {
            for (int times = 1; times < other; times++) {
                if (one * times % other == 0) {
                    return one * times;
                }
            }
            return one * other;
        }

        long marksThatCommute() {
            long all = 1;
            for (int length = 1; length < counts.length; length++) {
                for (int i = 1; i <= counts[length]; i++) {
                    all = all * length * i;
                }
            }
            return all;
        }
    }

    /** All that undo and the slots bring back. */
    private static final class Table {
        private int size = FIRST_SIZE;
        private long places = Moves.STAY; // of each card its place: what was done since the deck was laid in order
        private long trick = Moves.STAY;
        private int markCount = 0;
        private final long[] marks = new long[MOST_MARKS];

        void layInOrder(int newSize) {
            size = newSize;
            places = Moves.STAY;
            trick = Moves.STAY;
            markCount = 0;
        }

        void copyFrom(Table other) {
            size = other.size;
            places = other.places;
            trick = other.trick;
            markCount = other.markCount;
            for (int i = 0; i < marks.length && i < other.marks.length; i++) {
                marks[i] = other.marks[i];
            }
        }

        /** Places, cards and cuts have the same numbers. */
        boolean hasPlace(int place) {
            return place >= 0 && place < size;
        }

        boolean hasMark(int mark) {
            return mark >= 0 && mark < markCount;
        }

        long movesOf(int mark) {
            return mark >= 0 && mark < marks.length ? marks[mark] : Moves.STAY;
        }

        int addMark(long moves) {
            int number = markCount;
            if (number >= 0 && number < marks.length) {
                marks[number] = moves;
                markCount++;
            }
            return number;
        }

        void removeMark(int mark) {
            for (int i = mark; i >= 0 && i + 1 < marks.length; i++) {
                marks[i] = marks[i + 1];
            }
            markCount--;
        }

        int lowestMark(long moves) {
            for (int i = 0; i < markCount && i < marks.length; i++) {
                if (marks[i] == moves) {
                    return i;
                }
            }
            return NONE;
        }
    }

    /** Copies of tables, all made at once: keeping one makes no object. */
    private static final class Shelf {
        private final Table[] copies;
        private final boolean[] full;

        Shelf(int places) {
            int length = places > 0 ? places : 0;
            copies = new Table[length];
            full = new boolean[length];
            for (int i = 0; i < copies.length; i++) {
                copies[i] = new Table();
            }
        }

        boolean hasPlace(int place) {
            return place >= 0 && place < copies.length && place < full.length;
        }

        boolean isFull(int place) {
            return hasPlace(place) && full[place];
        }

        void keep(int place, Table table) {
            if (hasPlace(place) && copies[place] != null && table != null) {
                copies[place].copyFrom(table);
                full[place] = true;
            }
        }

        void bring(int place, Table table) {
            if (hasPlace(place) && copies[place] != null && table != null) {
                table.copyFrom(copies[place]);
            }
        }
    }

    /** Reads the text of a mark character by character. */
    private static final class MarkReader {
        private static final int START = 0, STAYS = 1, BEFORE_PLACE = 2, IN_PLACE = 3, CLOSED = 4;

        private int size = FIRST_SIZE;
        private int state = START;
        private long moves = Moves.STAY;
        private int used = 0; // the places in the text, as a set
        private int digits = 0; // what the digits of a place tell so far
        private int inCycle = 0; // how many places of the cycle have ended
        private int first = 0;
        private int last = 0;

        void begin(int deckSize) {
            size = deckSize;
            state = START;
            moves = Moves.STAY;
            used = 0;
        }

        /** Whether the character can stand here; if so it is taken. */
        boolean takes(char character) {
            switch (state) {
                case START:
                    return character == 'e' ? takesStay() : takesOpening(character);
                case CLOSED:
                    return takesOpening(character);
                case BEFORE_PLACE:
                    return takesDigit(character, 0);
                case IN_PLACE:
                    if (character == ',') {
                        return endsPlace();
                    }
                    if (character == ')') {
                        return inCycle > 0 && endsPlace() && closesCycle();
                    }
                    // no place of several digits begins with 0
                    return digits > 0 && takesDigit(character, digits);
                default:
                    return false;
            }
        }

        boolean mayEnd() {
            return state == STAYS || state == CLOSED;
        }

        private boolean takesStay() {
            state = STAYS;
            return true;
        }

        private boolean takesOpening(char character) {
            if (character != '(') {
                return false;
            }
            state = BEFORE_PLACE;
            inCycle = 0;
            return true;
        }

        private boolean takesDigit(char character, int ahead) {
            if (character < '0' || character > '9') {
                return false;
            }
            int value = 10 * ahead + (character - '0');
            if (!beginsFreePlace(value)) {
                return false;
            }
            digits = value;
            state = IN_PLACE;
            return true;
        }

        private boolean beginsFreePlace(int value) {
            for (int place = 0; place < size; place++) {
                if (isFree(place) && (place == value || value > 0 && place / 10 == value)) {
                    return true;
                }
            }
            return false;
        }

        private boolean isFree(int place) {
            return place >= 0 && place < size && (used >> place & 1) == 0;
        }

        private boolean endsPlace() {
            if (!isFree(digits)) {
                return false;
            }
            used = used | 1 << digits;
            if (inCycle == 0) {
                first = digits;
            } else {
                moves = Moves.with(moves, last, digits);
            }
            last = digits;
            inCycle++;
            state = BEFORE_PLACE;
            return true;
        }

        private boolean closesCycle() {
            moves = Moves.with(moves, last, first);
            state = CLOSED;
            return true;
        }
    }
}
