import java.util.ArrayList;
import java.util.Arrays;
import java.util.HashMap;
import java.util.List;
import java.util.Map;
import java.util.function.Consumer;
import java.util.function.ToLongFunction;

// Each call that is refused answers the error that DOC.md names, and changes nothing that any other call shows:
// two objects are prepared in the same way, one of them is given the refused call, and then both have to answer alike
// whatever is asked of them, also after undo(), restore(), mark(), set() and further changes.
public final class RefusalsTest {
    private static final int NO_SUCH = -1, BAD_VALUE = -2, BAD_TEXT = -3, TOO_MANY = -4, NOT_POSSIBLE = -5, NONE = -6;
    private static final int LEAST = Integer.MIN_VALUE, MOST = Integer.MAX_VALUE, TOLD = 50;
    private static int refused = 0;
    private static int wrong = 0;

    private static long packed(String text) {
        long characters = 0;
        for (int i = 0; i < text.length(); i++) {
            characters = characters << 8 | text.charAt(i);
        }
        return characters;
    }

    private static void putText(CutMarks x, String text) {
        for (int i = 0; i < text.length(); i += 8) {
            x.put(packed(text.substring(i, Math.min(i + 8, text.length()))));
        }
    }

    private static void addMark(CutMarks x, String text) {
        putText(x, text);
        x.mark();
    }

    // ---- the states in which calls are refused

    /** A state, the way to it, and what stands there. */
    private static final class Way {
        final String name;
        final Consumer<CutMarks> steps;
        final int size;
        final int marks;

        Way(String name, int size, int marks, Consumer<CutMarks> steps) {
            this.name = name;
            this.size = size;
            this.marks = marks;
            this.steps = steps;
        }

        CutMarks go() {
            CutMarks x = new CutMarks();
            steps.accept(x);
            return x;
        }
    }

    private static final Way NEW = new Way("a new object", 8, 0, x -> { });

    private static final Way EMPTIED = new Way("marks that are gone, undo() to the end", 8, 0, x -> {
        addMark(x, "(0,1)");
        x.cut(3);
        x.save(1);
        x.undo();
        x.undo();
    });

    private static final Way FULL = new Way("six marks, all kept and saved", 8, 6, x -> {
        x.save(0);
        addMark(x, "(0,1,2)");
        addMark(x, "(0,2,1)");
        x.cut(5);
        addMark(x, "(0,4)(1,5)(2,6)(3,7)");
        addMark(x, "(6,7)");
        addMark(x, "(7,0)");
        x.save(1);
        x.riffle(1);
        x.restart();
        x.play(0);
        x.play(3);
        addMark(x, "(0,1)");
        putText(x, "(5,6)");
    });

    private static final Way LEAST_SIZE = new Way("2 cards, a text that ends too early", 2, 1, x -> {
        addMark(x, "(2,3)");
        x.set(2);
        addMark(x, "(0,1)");
        x.save(0);
        x.turn();
        x.restart();
        putText(x, "(1,0");
    });

    private static final Way MOST_SIZE = new Way("16 cards, a full pad", 16, 3, x -> {
        addMark(x, "e");
        x.set(16);
        addMark(x, "(10,15,0)(1,11)");
        addMark(x, "(14,15)");
        x.cut(5);
        x.restart();
        x.save(1);
        x.riffle(0);
        x.power(0, -1);
        putText(x, "(0,15)(10,9)(1,1".repeat(5));
    });

    private static final List<Way> WAYS = Arrays.asList(NEW, EMPTIED, FULL, LEAST_SIZE, MOST_SIZE);

    // ---- all that calls show

    private static void lookAtTheDeck(CutMarks x, List<Long> seen) {
        for (int what = 0; what < 7; what++) {
            seen.add((long) x.count(what));
        }
        for (int place = 0; place < x.count(0); place++) {
            seen.add((long) x.at(place));
            seen.add((long) x.where(place));
        }
        seen.add(x.spread());
        seen.add((long) x.share());
        seen.add((long) x.fewestSteps());
        seen.add((long) x.firstStep());
        seen.add((long) x.fault());
    }

    private static void lookAtAMark(CutMarks x, int mark, List<Long> seen) {
        for (int what = 0; what < 7; what++) {
            seen.add((long) x.of(mark, what));
        }
        for (int place = 0; place < x.count(0); place++) {
            seen.add((long) x.image(mark, 1, place));
        }
        seen.add(x.commuting(mark));
        seen.add((long) x.commute(mark, NONE));
        seen.add((long) x.commute(0, mark));
        seen.add((long) x.byCut(mark, 1, 0));
        seen.add((long) x.becomes(mark, 1));
        seen.add((long) x.ordersIn(mark));
    }

    private static void look(CutMarks x, List<Long> seen) {
        lookAtTheDeck(x, seen);
        lookAtAMark(x, NONE, seen);
        for (int mark = 0; mark < x.count(1); mark++) {
            lookAtAMark(x, mark, seen);
        }
    }

    /** What is done ahead of a look; each with an object of its own, so that none has more than 512 calls. */
    private static List<Consumer<CutMarks>> probes() {
        List<Consumer<CutMarks>> all = new ArrayList<>();
        for (int depth = 0; depth <= 7; depth++) {
            int undone = depth;
            all.add(x -> {
                for (int i = 0; i < undone; i++) {
                    x.undo();
                }
            });
        }
        all.add(x -> x.restore(0));
        all.add(x -> x.restore(1));
        all.add(CutMarks::mark);
        all.add(x -> x.put('e'));
        all.add(x -> x.put(')'));
        all.add(CutMarks::wipe);
        all.add(x -> x.drop(0));
        for (int changes = 1; changes <= 7; changes++) {
            int done = changes;
            all.add(x -> {
                for (int i = 0; i < done; i++) {
                    x.cut(1);
                }
                for (int i = 0; i < 6; i++) {
                    x.undo();
                }
            });
        }
        return all;
    }

    private static final List<Consumer<CutMarks>> PROBES = probes();

    /** The pad at all sizes: other faults show other parts of it. */
    private static void lookAtThePad(CutMarks x, List<Long> seen) {
        for (int size = 2; size <= 16; size++) {
            x.set(size);
            seen.add((long) x.fault());
        }
        seen.add((long) x.mark());
        seen.add((long) x.wipe());
    }

    private static List<Long> allThatShows(Way way, ToLongFunction<CutMarks> call) {
        List<Long> seen = new ArrayList<>();
        for (Consumer<CutMarks> probe : PROBES) {
            CutMarks x = way.go();
            call.applyAsLong(x);
            probe.accept(x);
            look(x, seen);
        }
        CutMarks x = way.go();
        call.applyAsLong(x);
        lookAtThePad(x, seen);
        return seen;
    }

    private static final Map<Way, List<Long>> UNTOUCHED = new HashMap<>();

    private static void wrong(Way way, String call, String what) {
        if (++wrong <= TOLD) {
            System.out.println(way.name + ": " + call + " " + what);
        }
    }

    private static void isRefused(Way way, String name, ToLongFunction<CutMarks> call, long error) {
        refused++;
        long answer = call.applyAsLong(way.go());
        if (answer != error) {
            wrong(way, name, "answered " + answer + ", due is " + error);
        }
        if (!UNTOUCHED.containsKey(way)) {
            UNTOUCHED.put(way, allThatShows(way, x -> 0));
        }
        if (!allThatShows(way, call).equals(UNTOUCHED.get(way))) {
            wrong(way, name, "is refused, and changes something");
        }
    }

    // ---- the refused calls

    /** Just beyond both ends, and far beyond them; 0 to bound - 1 are allowed. */
    private static int[] beyond(int bound) {
        return new int[] {-1, bound, bound + 1, -2, -7, 17, LEAST, MOST};
    }

    private static int[] beyondAndNone(int bound) {
        return new int[] {-1, bound, NONE, bound + 1, -7, 17, LEAST, MOST};
    }

    private static void setIsRefused(Way way) {
        for (int value : new int[] {1, 17, 0, -1, -8, NONE, 18, LEAST, MOST}) {
            isRefused(way, "set(" + value + ")", x -> x.set(value), BAD_VALUE);
        }
    }

    private static void productIsRefused(Way way) {
        for (int mark : beyondAndNone(way.marks)) {
            isRefused(way, "product(" + mark + ", 0)", x -> x.product(mark, 0), NO_SUCH);
            isRefused(way, "product(0, " + mark + ")", x -> x.product(0, mark), NO_SUCH);
            isRefused(way, "product(" + mark + ", " + mark + ")", x -> x.product(mark, mark), NO_SUCH);
        }
    }

    private static void powerIsRefused(Way way) {
        for (int mark : beyondAndNone(way.marks)) {
            for (int n : new int[] {0, 1, 999, 1000, -1000}) {
                isRefused(way, "power(" + mark + ", " + n + ")", x -> x.power(mark, n), NO_SUCH);
            }
        }
        if (way.marks > 0) {
            for (int n : new int[] {1000, -1000, 1001, -1001, LEAST, MOST}) {
                isRefused(way, "power(0, " + n + ")", x -> x.power(0, n), BAD_VALUE);
            }
        }
    }

    private static void callsOfOneMarkAreRefused(Way way) {
        for (int mark : beyondAndNone(way.marks)) {
            isRefused(way, "drop(" + mark + ")", x -> x.drop(mark), NO_SUCH);
            isRefused(way, "play(" + mark + ")", x -> x.play(mark), NO_SUCH);
            isRefused(way, "ordersIn(" + mark + ")", x -> x.ordersIn(mark), NO_SUCH);
        }
        for (int mark : beyond(way.marks)) {
            isRefused(way, "commuting(" + mark + ")", x -> x.commuting(mark), NO_SUCH);
            isRefused(way, "commute(" + mark + ", NONE)", x -> x.commute(mark, NONE), NO_SUCH);
            isRefused(way, "commute(NONE, " + mark + ")", x -> x.commute(NONE, mark), NO_SUCH);
            isRefused(way, "commute(" + mark + ", " + mark + ")", x -> x.commute(mark, mark), NO_SUCH);
        }
    }

    private static void callsOfThePlacesAreRefused(Way way) {
        for (int place : beyondAndNone(way.size)) {
            isRefused(way, "cut(" + place + ")", x -> x.cut(place), BAD_VALUE);
            isRefused(way, "at(" + place + ")", x -> x.at(place), NO_SUCH);
            isRefused(way, "where(" + place + ")", x -> x.where(place), NO_SUCH);
        }
        for (int inner : beyondAndNone(2)) {
            isRefused(way, "riffle(" + inner + ")", x -> x.riffle(inner), BAD_VALUE);
        }
    }

    private static void ofIsRefused(Way way) {
        for (int mark : beyond(way.marks)) {
            for (int what : new int[] {0, 6, 7, -1}) {
                isRefused(way, "of(" + mark + ", " + what + ")", x -> x.of(mark, what), NO_SUCH);
            }
        }
        for (int what : beyondAndNone(7)) {
            isRefused(way, "of(NONE, " + what + ")", x -> x.of(NONE, what), BAD_VALUE);
            isRefused(way, "count(" + what + ")", x -> x.count(what), BAD_VALUE);
            if (way.marks > 0) {
                isRefused(way, "of(0, " + what + ")", x -> x.of(0, what), BAD_VALUE);
            }
        }
    }

    private static void imageIsRefused(Way way) {
        for (int mark : beyond(way.marks)) {
            isRefused(way, "image(" + mark + ", 0, 0)", x -> x.image(mark, 0, 0), NO_SUCH);
            isRefused(way, "image(" + mark + ", 1000, 0)", x -> x.image(mark, 1000, 0), NO_SUCH);
            isRefused(way, "image(" + mark + ", -1000, -1)", x -> x.image(mark, -1000, -1), NO_SUCH);
        }
        for (int place : beyondAndNone(way.size)) {
            isRefused(way, "image(NONE, 0, " + place + ")", x -> x.image(NONE, 0, place), NO_SUCH);
            isRefused(way, "image(NONE, 1000, " + place + ")", x -> x.image(NONE, 1000, place), NO_SUCH);
        }
        for (int n : new int[] {1000, -1000, 1001, LEAST, MOST}) {
            isRefused(way, "image(NONE, " + n + ", 0)", x -> x.image(NONE, n, 0), BAD_VALUE);
            if (way.marks > 0) {
                isRefused(way, "image(0, " + n + ", SIZE - 1)", x -> x.image(0, n, way.size - 1), BAD_VALUE);
            }
        }
    }

    private static void callsOfAMarkAndACutAreRefused(Way way) {
        for (int mark : beyondAndNone(way.marks)) {
            isRefused(way, "byCut(" + mark + ", 0, 0)", x -> x.byCut(mark, 0, 0), NO_SUCH);
            isRefused(way, "byCut(" + mark + ", -1, 0)", x -> x.byCut(mark, -1, 0), NO_SUCH);
            isRefused(way, "becomes(" + mark + ", 0)", x -> x.becomes(mark, 0), NO_SUCH);
            isRefused(way, "becomes(" + mark + ", SIZE)", x -> x.becomes(mark, way.size), NO_SUCH);
        }
        if (way.marks > 0) {
            for (int place : beyondAndNone(way.size)) {
                isRefused(way, "byCut(0, 0, " + place + ")", x -> x.byCut(0, 0, place), NO_SUCH);
                isRefused(way, "byCut(0, SIZE, " + place + ")", x -> x.byCut(0, way.size, place), NO_SUCH);
                isRefused(way, "byCut(0, " + place + ", 0)", x -> x.byCut(0, place, 0), BAD_VALUE);
                isRefused(way, "becomes(0, " + place + ")", x -> x.becomes(0, place), BAD_VALUE);
            }
        }
    }

    private static void putIsRefused(Way way) {
        long[] bad = {0, -1, ' ', 127, 128, 255, packed("a b"), packed("e") << 8, packed("(0,1)") << 8 | 32,
            packed("(0,1)") << 8 | 127, 0x65_00_65L, 0x65_00_00_00_00_00_00_65L, 0x7F_65_65_65_65_65_65_65L,
            0x20_65_65_65_65_65_65_65L, Long.MIN_VALUE, Long.MAX_VALUE, Long.MIN_VALUE | 'e', 1L << 16 | 'e'};
        for (long characters : bad) {
            isRefused(way, "put(" + characters + ")", x -> x.put(characters), BAD_VALUE);
        }
    }

    private static void slotsAreRefused(Way way) {
        for (int slot : beyondAndNone(2)) {
            isRefused(way, "save(" + slot + ")", x -> x.save(slot), BAD_VALUE);
            isRefused(way, "restore(" + slot + ")", x -> x.restore(slot), BAD_VALUE);
        }
    }

    private static void callsThatOneStateRefuses() {
        isRefused(NEW, "mark(), an empty pad", CutMarks::mark, BAD_TEXT);
        isRefused(LEAST_SIZE, "mark(), a text that ends too early", CutMarks::mark, BAD_TEXT);
        isRefused(MOST_SIZE, "mark(), a full pad", CutMarks::mark, BAD_TEXT);
        isRefused(FULL, "mark(), six marks", CutMarks::mark, TOO_MANY);
        isRefused(FULL, "trick(), six marks", CutMarks::trick, TOO_MANY);
        isRefused(FULL, "product(0, 5), six marks", x -> x.product(0, 5), TOO_MANY);
        isRefused(FULL, "product(5, 5), six marks", x -> x.product(5, 5), TOO_MANY);
        for (int n : new int[] {0, 1, 999, -999}) {
            isRefused(FULL, "power(5, " + n + "), six marks", x -> x.power(5, n), TOO_MANY);
        }
        isRefused(MOST_SIZE, "put('e'), a full pad", x -> x.put('e'), TOO_MANY);
        isRefused(MOST_SIZE, "put() of 8, a full pad", x -> x.put(packed("(0,1)(2,")), TOO_MANY);
        isRefused(NEW, "undo()", CutMarks::undo, NOT_POSSIBLE);
        isRefused(EMPTIED, "undo()", CutMarks::undo, NOT_POSSIBLE);
        isRefused(NEW, "restore(0)", x -> x.restore(0), NOT_POSSIBLE);
        isRefused(NEW, "restore(1)", x -> x.restore(1), NOT_POSSIBLE);
        isRefused(EMPTIED, "restore(0)", x -> x.restore(0), NOT_POSSIBLE);
        isRefused(LEAST_SIZE, "restore(1)", x -> x.restore(1), NOT_POSSIBLE);
        isRefused(MOST_SIZE, "restore(0)", x -> x.restore(0), NOT_POSSIBLE);
    }

    /** A pad with a fault and six marks at once; one with less room than is put. */
    private static void callsThatTwoBoundsRefuse() {
        Way fault = new Way("six marks, a pad with a fault", 8, 6, x -> {
            FULL.steps.accept(x);
            x.put('e');
        });
        isRefused(fault, "mark()", CutMarks::mark, BAD_TEXT);
        isRefused(fault, "trick()", CutMarks::trick, TOO_MANY);
        for (int room = 1; room < 8; room++) {
            String most = "(1,0)(2,3)".repeat(8).substring(room);
            int left = room;
            Way way = new Way("a pad with room for " + room, 8, 0, x -> putText(x, most));
            isRefused(way, "put() of one too many", x -> x.put(packed("(1,2)(3,".substring(0, left + 1))), TOO_MANY);
            isRefused(way, "put() of 8", x -> x.put(packed("(1,2)(3,")), TOO_MANY);
            isRefused(way, "put() of 8, the first one wrong", x -> x.put(packed(" 1,2)(3,")), BAD_VALUE);
            isRefused(way, "put() of 8, the last one wrong", x -> x.put(packed("(1,2)(3 ")), BAD_VALUE);
        }
    }

    /** A call of no change that is answered, with NONE or otherwise, changes nothing either. */
    private static void looksChangeNothing(Way way) {
        List<ToLongFunction<CutMarks>> looks = new ArrayList<>();
        looks.add(x -> {
            List<Long> seen = new ArrayList<>();
            lookAtTheDeck(x, seen);
            lookAtAMark(x, NONE, seen);
            return 0;
        });
        looks.add(x -> {
            lookAtAMark(x, 0, new ArrayList<>());
            return 0;
        });
        for (ToLongFunction<CutMarks> call : looks) {
            isRefused(way, "a look", call, 0);
        }
    }

    public static void main(String[] args) {
        for (Way way : WAYS) {
            setIsRefused(way);
            productIsRefused(way);
            powerIsRefused(way);
            callsOfOneMarkAreRefused(way);
            callsOfThePlacesAreRefused(way);
            ofIsRefused(way);
            imageIsRefused(way);
            callsOfAMarkAndACutAreRefused(way);
            putIsRefused(way);
            slotsAreRefused(way);
            looksChangeNothing(way);
        }
        callsThatOneStateRefuses();
        callsThatTwoBoundsRefuse();
        System.out.println(wrong == 0 ? refused + " refused calls are as due" : wrong + " things are not as due");
        if (wrong != 0) {
            System.exit(1);
        }
    }
}
