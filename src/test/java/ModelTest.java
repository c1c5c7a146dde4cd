import java.util.ArrayList;
import java.util.Arrays;
import java.util.HashSet;
import java.util.LinkedList;
import java.util.List;
import java.util.Set;

// Long runs of calls, chosen by a fixed row of numbers, against a slow model that follows the document's words.
public final class ModelTest {
    private static final int NO_SUCH = -1, BAD_VALUE = -2, BAD_TEXT = -3, TOO_MANY = -4, NOT_POSSIBLE = -5, NONE = -6;
    private static final int RUNS = 400, CALLS = 512;

    /** What undo and the slots bring back. */
    private static final class State {
        int size = 8;
        int[] deck = stay(8); // the card in each place
        int[] trick = stay(8);
        List<int[]> marks = new ArrayList<>();

        State copy() {
            State other = new State();
            other.size = size;
            other.deck = deck.clone();
            other.trick = trick.clone();
            for (int[] mark : marks) {
                other.marks.add(mark.clone());
            }
            return other;
        }
    }

    private static int[] stay(int size) {
        int[] mark = new int[size];
        for (int p = 0; p < size; p++) {
            mark[p] = p;
        }
        return mark;
    }

    private static int[] then(int[] first, int[] second) {
        int[] both = new int[first.length];
        for (int p = 0; p < both.length; p++) {
            both[p] = second[first[p]];
        }
        return both;
    }

    private static int[] inverse(int[] mark) {
        int[] back = new int[mark.length];
        for (int p = 0; p < back.length; p++) {
            back[mark[p]] = p;
        }
        return back;
    }

    private static int[] power(int[] mark, int n) {
        int[] all = stay(mark.length);
        int[] one = n < 0 ? inverse(mark) : mark;
        for (int i = 0; i < Math.abs(n); i++) {
            all = then(all, one);
        }
        return all;
    }

    private static boolean stays(int[] mark) {
        return Arrays.equals(mark, stay(mark.length));
    }

    private static int order(int[] mark) {
        int n = 1;
        for (int[] all = mark; !stays(all); all = then(all, mark)) {
            n++;
        }
        return n;
    }

    private static int[] cutMark(int size, int k) {
        int[] cut = new int[size];
        for (int p = 0; p < size; p++) {
            cut[p] = p - k < 0 ? p - k + size : p - k;
        }
        return cut;
    }

    /** The cards of the two halves one by one upon each other, as hands would lay them. */
    private static int[] riffleMark(int size, int inner) {
        int upper = inner == 1 ? size / 2 : (size + 1) / 2;
        LinkedList<Integer> one = new LinkedList<>();
        LinkedList<Integer> other = new LinkedList<>();
        for (int p = 0; p < size; p++) {
            (p < upper ? one : other).add(p);
        }
        int[] riffle = new int[size];
        boolean fromUpper = inner == 0;
        for (int target = 0; target < size; target++) {
            riffle[(fromUpper ? one : other).removeFirst()] = target;
            fromUpper = !fromUpper;
        }
        return riffle;
    }

    private static int[] turnMark(int size) {
        int[] turn = new int[size];
        for (int p = 0; p < size; p++) {
            turn[p] = size - 1 - p;
        }
        return turn;
    }

    private static int[] moved(int[] deck, int[] mark) {
        int[] after = new int[deck.length];
        for (int p = 0; p < deck.length; p++) {
            after[mark[p]] = deck[p];
        }
        return after;
    }

    private static int[] step(int[] deck, int step) {
        int size = deck.length;
        switch (step) {
            case 0:
                return moved(deck, cutMark(size, 1));
            case 1:
                return moved(deck, riffleMark(size, 0));
            case 2:
                return moved(deck, riffleMark(size, 1));
            default:
                return moved(deck, turnMark(size));
        }
    }

    private static int distance(int[] deck, int most) {
        Set<List<Integer>> seen = new HashSet<>();
        List<int[]> level = new ArrayList<>();
        level.add(deck);
        for (int steps = 0; steps <= most; steps++) {
            List<int[]> next = new ArrayList<>();
            for (int[] one : level) {
                if (stays(one)) {
                    return steps;
                }
                for (int s = 0; s < 4 && steps < most; s++) {
                    int[] after = step(one, s);
                    List<Integer> key = new ArrayList<>();
                    for (int card : after) {
                        key.add(card);
                    }
                    if (seen.add(key)) {
                        next.add(after);
                    }
                }
            }
            level = next;
        }
        return NONE;
    }

    private static List<Integer> cycleLengths(int[] mark) {
        List<Integer> lengths = new ArrayList<>();
        boolean[] seen = new boolean[mark.length];
        for (int p = 0; p < mark.length; p++) {
            int length = 0;
            for (int q = p; !seen[q]; q = mark[q]) {
                seen[q] = true;
                length++;
            }
            if (length > 0) {
                lengths.add(length);
            }
        }
        return lengths;
    }

    /** Small decks: all marks are tried. Others: the rule of the document. */
    private static long commuting(int[] mark) {
        if (mark.length <= 6) {
            return tryAll(mark, new int[mark.length], 0, 0);
        }
        long all = 1;
        List<Integer> lengths = cycleLengths(mark);
        for (int length = 1; length <= mark.length; length++) {
            int often = 0;
            for (int one : lengths) {
                often += one == length ? 1 : 0;
            }
            for (int i = 1; i <= often; i++) {
                all = all * length * i;
            }
        }
        return all;
    }

    private static long tryAll(int[] mark, int[] other, int place, int used) {
        if (place == mark.length) {
            return Arrays.equals(then(mark, other), then(other, mark)) ? 1 : 0;
        }
        long all = 0;
        for (int target = 0; target < mark.length; target++) {
            if ((used >> target & 1) == 0) {
                other[place] = target;
                all += tryAll(mark, other, place + 1, used | 1 << target);
            }
        }
        return all;
    }

    private static int set(int[] mark) {
        int fixed = 0;
        for (int p = 0; p < mark.length; p++) {
            fixed |= mark[p] == p ? 1 << p : 0;
        }
        return fixed;
    }

    // ---- the model's texts

    private static boolean canStand(String text, int size) {
        if (text.isEmpty() || text.equals("e")) {
            return true;
        }
        if (!text.matches("(\\(\\d+(,\\d+)+\\))*(\\((\\d+,)*\\d*)?")) {
            return false;
        }
        List<String> free = new ArrayList<>();
        for (int p = 0; p < size; p++) {
            free.add(Integer.toString(p));
        }
        StringBuilder digits = new StringBuilder();
        for (char c : text.toCharArray()) {
            if (Character.isDigit(c)) {
                digits.append(c);
            } else if (c != '(' && digits.length() > 0) {
                if (!free.remove(digits.toString())) {
                    return false;
                }
                digits.setLength(0);
            }
        }
        for (String place : free) {
            if (place.startsWith(digits.toString())) {
                return true;
            }
        }
        return digits.length() == 0;
    }

    private static int fault(String text, int size) {
        for (int i = 0; i < text.length(); i++) {
            if (!canStand(text.substring(0, i + 1), size)) {
                return i;
            }
        }
        return text.equals("e") || text.endsWith(")") ? NONE : text.length();
    }

    private static int[] read(String text, int size) {
        int[] mark = stay(size);
        if (text.equals("e")) {
            return mark;
        }
        for (String cycle : text.substring(1, text.length() - 1).split("\\)\\(")) {
            String[] places = cycle.split(",");
            for (int i = 0; i < places.length; i++) {
                mark[Integer.parseInt(places[i])] = Integer.parseInt(places[(i + 1) % places.length]);
            }
        }
        return mark;
    }

    // ---- the model

    private State now = new State();
    private final LinkedList<State> history = new LinkedList<>();
    private final State[] slots = new State[2];
    private String pad = "";

    private void change() {
        history.addLast(now.copy());
        if (history.size() > 6) {
            history.removeFirst();
        }
    }

    private boolean isMark(int mark) {
        return mark >= 0 && mark < now.marks.size();
    }

    private boolean isMarkOrTrick(int mark) {
        return mark == NONE || isMark(mark);
    }

    private int[] markOrTrick(int mark) {
        return mark == NONE ? now.trick : now.marks.get(mark);
    }

    private boolean isPlace(int place) {
        return place >= 0 && place < now.size;
    }

    private int comes(int[] mark) {
        if (now.marks.size() == 6) {
            return TOO_MANY;
        }
        change();
        now.marks.add(mark.clone());
        return now.marks.size() - 1;
    }

    private int move(int[] mark) {
        change();
        now.deck = moved(now.deck, mark);
        now.trick = then(now.trick, mark);
        return now.deck[0];
    }

    private int lowest(int[] wanted) {
        for (int i = 0; i < now.marks.size(); i++) {
            if (Arrays.equals(now.marks.get(i), wanted)) {
                return i;
            }
        }
        return NONE;
    }

    private int[] becomes(int[] mark, int k) {
        int[] cut = cutMark(now.size, k);
        return then(then(inverse(cut), mark), cut);
    }

    private int of(int[] mark, int what) {
        List<Integer> lengths = cycleLengths(mark);
        int longest = 0;
        for (int length : lengths) {
            longest = Math.max(longest, length);
        }
        int cuts = 0;
        for (int k = 0; k < now.size; k++) {
            int[] cut = cutMark(now.size, k);
            cuts |= Arrays.equals(then(mark, cut), then(cut, mark)) ? 1 << k : 0;
        }
        int sign = (now.size - lengths.size()) % 2 == 0 ? 1 : -1;
        int[] answers = {order(mark), lengths.size(), set(mark), longest, sign + 1, cuts, lowest(inverse(mark))};
        return what >= 0 && what < answers.length ? answers[what] : BAD_VALUE;
    }

    private int count(int what) {
        int moves = now.size - Integer.bitCount(set(now.trick));
        int[] answers = {now.size, now.marks.size(), set(now.deck), stays(now.deck) ? 1 : 0, moves, pad.length(),
            history.size()};
        return what >= 0 && what < answers.length ? answers[what] : BAD_VALUE;
    }

    private int ordersIn(int[] mark) {
        int[] deck = now.deck;
        for (int n = 0; n < order(mark); n++) {
            if (stays(deck)) {
                return n;
            }
            deck = moved(deck, mark);
        }
        return NONE;
    }

    private int firstStep() {
        int steps = distance(now.deck, 5);
        for (int s = 0; s < 4 && steps > 0; s++) {
            if (distance(step(now.deck, s), steps - 1) == steps - 1) {
                return s;
            }
        }
        return NONE;
    }

    private long spread() {
        double sum = 0.0;
        for (int p = 0; p < now.size; p++) {
            sum += Math.abs(now.deck[p] - p);
        }
        return Double.doubleToLongBits(sum / (double) now.size);
    }

    private int put(long characters) {
        String text = "";
        long rest = characters;
        for (int i = 0; i < 8 && (rest & 255) != 0; i++) {
            int code = (int) (rest & 255);
            if (code < 33 || code > 126) {
                return BAD_VALUE;
            }
            text = (char) code + text;
            rest >>>= 8;
        }
        if (rest != 0 || text.isEmpty()) {
            return BAD_VALUE;
        }
        if (pad.length() + text.length() > 80) {
            return TOO_MANY;
        }
        pad = pad + text;
        return pad.length();
    }

    private int mark() {
        if (fault(pad, now.size) != NONE) {
            return BAD_TEXT;
        }
        int number = comes(read(pad, now.size));
        pad = number == TOO_MANY ? pad : "";
        return number;
    }

    private int set(int value) {
        if (value < 2 || value > 16) {
            return BAD_VALUE;
        }
        change();
        int previous = now.size;
        now = new State();
        now.size = value;
        now.deck = stay(value);
        now.trick = stay(value);
        return previous;
    }

    private int restart() {
        change();
        int moves = now.size - Integer.bitCount(set(now.trick));
        now.trick = stay(now.size);
        return moves;
    }

    private int undo() {
        if (history.isEmpty()) {
            return NOT_POSSIBLE;
        }
        now = history.removeLast();
        return history.size();
    }

    private int save(int slot) {
        if (slot != 0 && slot != 1) {
            return BAD_VALUE;
        }
        slots[slot] = now.copy();
        return now.marks.size();
    }

    private int restore(int slot) {
        if (slot != 0 && slot != 1) {
            return BAD_VALUE;
        }
        if (slots[slot] == null) {
            return NOT_POSSIBLE;
        }
        change();
        now = slots[slot].copy();
        return now.marks.size();
    }

    private int drop(int mark) {
        if (!isMark(mark)) {
            return NO_SUCH;
        }
        change();
        now.marks.remove(mark);
        return now.marks.size();
    }

    private static boolean isPower(int n) {
        return n >= -999 && n <= 999;
    }

    private long changeAnswer(String name, int a, int b) {
        switch (name) {
            case "set": return set(a);
            case "mark": return mark();
            case "product": return isMark(a) && isMark(b) ? comes(then(markOrTrick(a), markOrTrick(b))) : NO_SUCH;
            case "power": return !isMark(a) ? NO_SUCH : isPower(b) ? comes(power(markOrTrick(a), b)) : BAD_VALUE;
            case "trick": return comes(now.trick);
            case "drop": return drop(a);
            case "play": return isMark(a) ? move(markOrTrick(a)) : NO_SUCH;
            case "cut": return isPlace(a) ? move(cutMark(now.size, a)) : BAD_VALUE;
            case "riffle": return a == 0 || a == 1 ? move(riffleMark(now.size, a)) : BAD_VALUE;
            case "turn": return move(turnMark(now.size));
            case "restart": return restart();
            case "undo": return undo();
            case "save": return save(a);
            case "restore": return restore(a);
            default: throw new IllegalArgumentException(name);
        }
    }

    private long answer(String name, int a, int b, int c) {
        switch (name) {
            case "at": return isPlace(a) ? now.deck[a] : NO_SUCH;
            case "where": return isPlace(a) ? inverse(now.deck)[a] : NO_SUCH;
            case "of": return isMarkOrTrick(a) ? of(markOrTrick(a), b) : NO_SUCH;
            case "image": return !isMarkOrTrick(a) || !isPlace(c) ? NO_SUCH : isPower(b) ? power(markOrTrick(a), b)[c] : BAD_VALUE;
            case "commuting": return isMarkOrTrick(a) ? commuting(markOrTrick(a)) : NO_SUCH;
            case "commute": return !isMarkOrTrick(a) || !isMarkOrTrick(b) ? NO_SUCH
                : Arrays.equals(then(markOrTrick(a), markOrTrick(b)), then(markOrTrick(b), markOrTrick(a))) ? 1 : 0;
            case "count": return count(a);
            case "spread": return spread();
            case "share": return Float.floatToIntBits((float) Integer.bitCount(set(now.deck)) / (float) now.size);
            case "byCut": return !isMark(a) || !isPlace(c) ? NO_SUCH : isPlace(b) ? becomes(markOrTrick(a), b)[c] : BAD_VALUE;
            case "becomes": return !isMark(a) ? NO_SUCH : isPlace(b) ? lowest(becomes(markOrTrick(a), b)) : BAD_VALUE;
            case "ordersIn": return isMark(a) ? ordersIn(markOrTrick(a)) : NO_SUCH;
            case "fewestSteps": return distance(now.deck, 5);
            case "firstStep": return firstStep();
            case "wipe": int length = pad.length(); pad = ""; return length;
            case "fault": return fault(pad, now.size);
            default: return changeAnswer(name, a, b);
        }
    }

    private static long call(CutMarks x, String name, int a, int b, int c) {
        switch (name) {
            case "set": return x.set(a);
            case "mark": return x.mark();
            case "product": return x.product(a, b);
            case "power": return x.power(a, b);
            case "trick": return x.trick();
            case "drop": return x.drop(a);
            case "play": return x.play(a);
            case "cut": return x.cut(a);
            case "riffle": return x.riffle(a);
            case "turn": return x.turn();
            case "restart": return x.restart();
            case "at": return x.at(a);
            case "where": return x.where(a);
            case "of": return x.of(a, b);
            case "image": return x.image(a, b, c);
            case "commuting": return x.commuting(a);
            case "commute": return x.commute(a, b);
            case "count": return x.count(a);
            case "spread": return x.spread();
            case "share": return x.share();
            case "byCut": return x.byCut(a, b, c);
            case "becomes": return x.becomes(a, b);
            case "ordersIn": return x.ordersIn(a);
            case "fewestSteps": return x.fewestSteps();
            case "firstStep": return x.firstStep();
            case "wipe": return x.wipe();
            case "fault": return x.fault();
            case "undo": return x.undo();
            case "save": return x.save(a);
            default: return x.restore(a);
        }
    }

    // ---- the choice of calls

    private static final String[] NAMES = {"set", "product", "power", "trick", "drop", "play", "cut", "riffle", "turn",
        "restart", "at", "where", "of", "image", "commuting", "commute", "count", "spread", "share", "byCut", "becomes",
        "ordersIn", "fewestSteps", "firstStep", "wipe", "fault", "undo", "save", "restore", "of", "of", "byCut", "becomes",
        "ordersIn", "riffle", "play", "undo", "count", "image", "text", "text", "text", "text", "put", "mark"};
    private static final int[] FAR = {-999, 999, 1000, -1000, Integer.MIN_VALUE, Integer.MAX_VALUE, 80, 255, -7, 17};

    private long seed;
    private int wrong = 0;

    private ModelTest(long seed) {
        this.seed = seed;
    }

    private int below(int bound) {
        seed = seed * 6364136223846793005L + 1442695040888963407L;
        return (int) ((seed >>> 33) % bound);
    }

    private int number() {
        switch (below(12)) {
            case 0:
                return FAR[below(FAR.length)];
            case 1:
                return -6;
            case 2:
                return below(24) - 7;
            default:
                return below(now.size);
        }
    }

    private int markNumber() {
        int many = now.marks.size();
        return below(10) == 0 || many == 0 ? number() : below(6) == 0 ? NONE : below(many);
    }

    private String text() {
        if (below(8) == 0) {
            return "e";
        }
        List<Integer> free = new ArrayList<>();
        for (int p = 0; p < now.size; p++) {
            free.add(p);
        }
        StringBuilder text = new StringBuilder();
        for (int cycles = 1 + below(3); cycles > 0 && free.size() > 1; cycles--) {
            text.append('(').append(free.remove(below(free.size())));
            for (int more = 1 + below(4); more > 0 && !free.isEmpty(); more--) {
                text.append(',').append(free.remove(below(free.size())));
            }
            text.append(')');
        }
        for (int spoils = below(4) == 0 ? 1 + below(2) : 0; spoils > 0; spoils--) {
            String signs = "e(),0123456789!~";
            int at = below(text.length() + 1);
            switch (below(3)) {
                case 0:
                    text.insert(at, signs.charAt(below(signs.length())));
                    break;
                case 1:
                    text.setLength(at);
                    break;
                default:
                    text.setCharAt(below(Math.max(1, text.length())), signs.charAt(below(signs.length())));
                    break;
            }
            if (text.length() == 0) {
                text.append('(');
            }
        }
        return text.toString();
    }

    private long oddCharacters() {
        long characters = 0;
        for (int i = below(9); i > 0; i--) {
            int code = below(30) == 0 ? below(256) : below(40) == 0 ? 0 : 33 + below(94);
            characters = characters << 8 | code;
        }
        return characters;
    }

    private void compare(String call, long got, long want) {
        if (got != want) {
            wrong++;
            System.out.println(call + " answered " + got + ", due is " + want + " (pad " + pad + ", size " + now.size + ")");
        }
    }

    private int putText(CutMarks x, String text) {
        int calls = 0;
        for (int i = 0; i < text.length(); ) {
            int end = Math.min(text.length(), i + 1 + below(8));
            long characters = 0;
            for (; i < end; i++) {
                characters = characters << 8 | text.charAt(i);
            }
            compare("put(" + characters + ")", x.put(characters), put(characters));
            calls++;
        }
        return calls;
    }

    private int callBoth(CutMarks x, String name) {
        boolean takesMark = "product power drop play of image commuting commute byCut becomes ordersIn".contains(name);
        int a = takesMark ? markNumber() : name.equals("riffle") || name.endsWith("e") && below(9) > 0 ? below(2) : number();
        int b = name.equals("product") || name.equals("commute") ? markNumber()
            : name.equals("power") || name.equals("image") ? (below(3) > 0 ? below(1999) - 999 : number()) : number();
        int c = number();
        if (name.equals("set") && below(4) > 0) {
            a = 2 + below(15);
        }
        if (name.equals("of") && below(8) > 0) {
            b = below(7);
        }
        compare(name + "(" + a + ", " + b + ", " + c + ")", call(x, name, a, b, c), answer(name, a, b, c));
        return 1;
    }

    private int play(CutMarks x) {
        String name = NAMES[below(NAMES.length)];
        if (name.equals("set") && below(3) > 0) {
            name = "fault";
        }
        if (name.equals("put")) {
            long characters = oddCharacters();
            compare("put(" + characters + ")", x.put(characters), put(characters));
            return 1;
        }
        if (!name.equals("text")) {
            return callBoth(x, name);
        }
        int calls = 0;
        if (below(4) > 0) {
            compare("wipe()", x.wipe(), pad.length());
            pad = "";
            calls++;
        }
        calls += putText(x, text());
        compare("fault()", x.fault(), fault(pad, now.size));
        return calls + 1 + callBoth(x, "mark");
    }

    private void compareAll(CutMarks x) {
        for (int what = 0; what < 7; what++) {
            compare("count(" + what + ")", x.count(what), count(what));
        }
        for (int place = 0; place < now.size; place++) {
            compare("at(" + place + ")", x.at(place), now.deck[place]);
            compare("image(NONE, 1, " + place + ")", x.image(NONE, 1, place), now.trick[place]);
        }
    }

    private static int run(int number) {
        ModelTest model = new ModelTest(number);
        CutMarks x = new CutMarks();
        if (number % 4 != 0) {
            model.callBoth(x, "set");
        }
        for (int calls = 0; calls < CALLS - 60 && model.wrong == 0; ) {
            calls += model.play(x);
        }
        model.compareAll(x);
        if (model.wrong > 0) {
            System.out.println("in run " + number);
        }
        return model.wrong;
    }

    public static void main(String[] args) {
        int wrong = 0;
        for (int number = 0; number < RUNS && wrong == 0; number++) {
            wrong += run(number);
        }
        System.out.println(wrong == 0 ? RUNS + " runs are as due" : "answers are not as due");
        if (wrong != 0) {
            System.exit(1);
        }
    }
}
