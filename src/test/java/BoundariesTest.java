import java.util.ArrayList;
import java.util.List;
import java.util.function.ToLongFunction;

// Sentence by sentence: what DOC.md says of a boundary, with the last value that is allowed and the first one beyond it,
// on both sides where there are two, of what is empty, of what is full, and of what wraps around.
// Each test names the sentence that it is about. That refused calls change nothing is the matter of RefusalsTest.
public final class BoundariesTest {
    private static final int NO_SUCH = -1, BAD_VALUE = -2, BAD_TEXT = -3, TOO_MANY = -4, NOT_POSSIBLE = -5, NONE = -6;
    private static final int LEAST = Integer.MIN_VALUE, MOST = Integer.MAX_VALUE, TOLD = 50;
    private static final String[] SIX = {"(0,1,2)", "(0,2,1)", "(1,2)", "(3,4)", "(5,6,7)", "e"};

    private static String sentence = "";
    private static int tests = 0;
    private static int wrong = 0;

    private static void about(String words) {
        sentence = words;
        tests++;
    }

    private static void due(String call, long got, long want) {
        if (got != want && ++wrong <= TOLD) {
            System.out.println("\"" + sentence + "\": " + call + " answered " + got + ", due is " + want);
        }
    }

    private static long packed(String text) {
        long characters = 0;
        for (int i = 0; i < text.length(); i++) {
            characters = characters << 8 | text.charAt(i);
        }
        return characters;
    }

    private static void putText(CutMarks x, String text) {
        for (int i = 0; i < text.length(); i += 8) {
            x.put(packed(text.substring(i, Math.min(i + 8, text.length()))));
        }
    }

    private static int addMark(CutMarks x, String text) {
        putText(x, text);
        return x.mark();
    }

    private static CutMarks deckOf(int size, String... texts) {
        CutMarks x = new CutMarks();
        if (size != 8) {
            x.set(size);
        }
        for (String text : texts) {
            addMark(x, text);
        }
        return x;
    }

    private static CutMarks padOf(int size, String text) {
        CutMarks x = deckOf(size);
        putText(x, text);
        return x;
    }

    /** All places in one cycle, from 0 on. */
    private static String oneCycle(int size) {
        StringBuilder text = new StringBuilder("(0");
        for (int place = 1; place < size; place++) {
            text.append(',').append(place);
        }
        return text.append(')').toString();
    }

    private static void dueDeck(String after, CutMarks x, int... cards) {
        due("count(0) after " + after, x.count(0), cards.length);
        for (int place = 0; place < cards.length; place++) {
            due("at(" + place + ") after " + after, x.at(place), cards[place]);
            due("where(" + cards[place] + ") after " + after, x.where(cards[place]), place);
        }
    }

    private static void dueInOrder(String after, CutMarks x, int size) {
        int[] cards = new int[size];
        for (int place = 0; place < size; place++) {
            cards[place] = place;
        }
        dueDeck(after, x, cards);
        due("count(3) after " + after, x.count(3), 1);
    }

    private static void dueMark(String name, CutMarks x, int mark, int... targets) {
        for (int place = 0; place < targets.length; place++) {
            due(name + ": image(" + mark + ", 1, " + place + ")", x.image(mark, 1, place), targets[place]);
        }
    }

    private static void dueStay(String name, CutMarks x, int mark) {
        for (int place = 0; place < x.count(0); place++) {
            due(name + ": image(" + mark + ", 1, " + place + ")", x.image(mark, 1, place), place);
        }
    }

    private static void dueFault(int size, String text, int want) {
        CutMarks x = padOf(size, text);
        due("fault() of " + text + ", " + size + " cards", x.fault(), want);
        due("mark() of " + text + ", " + size + " cards", x.mark(), want == NONE ? 0 : BAD_TEXT);
    }

    /** The last character cannot stand, with or without others behind it. */
    private static void dueFaultAtTheEnd(int size, String... texts) {
        for (String text : texts) {
            for (String behind : new String[] {"", "e", ")", "(0,1)"}) {
                dueFault(size, text + behind, text.length() - 1);
            }
        }
    }

    private static void dueEndsTooEarly(int size, String... texts) {
        for (String text : texts) {
            dueFault(size, text, text.length());
        }
    }

    private static void dueNoFault(int size, String... texts) {
        for (String text : texts) {
            dueFault(size, text, NONE);
        }
    }

    private static void dueForEach(String name, int want, ToLongFunction<Integer> call, int... arguments) {
        for (int argument : arguments) {
            due(name + " with " + argument, call.applyAsLong(argument), want);
        }
    }

    // ---- what it is, conventions

    private static void anObjectAnswersItsLastCall() {
        about("An object is used for at most 512 calls after it has been made");
        CutMarks x = new CutMarks();
        for (int call = 1; call <= 510; call++) {
            due("cut(1), call " + call, x.cut(1), call % 8);
        }
        due("undo(), call 511", x.undo(), 5);
        due("at(0), call 512", x.at(0), 509 % 8);
    }

    /** Also while other objects are in use. */
    private static void objectsAreApart() {
        about("Creates a deck of 8 cards in order, without marks.");
        CutMarks x = deckOf(8, SIX);
        x.save(0);
        x.cut(3);
        x.put('(');
        CutMarks y = new CutMarks();
        dueInOrder("new", y, 8);
        due("marks", y.count(1), 0);
        due("pad", y.count(5), 0);
        due("history", y.count(6), 0);
        due("restore(0)", y.restore(0), NOT_POSSIBLE);
        y.set(16);
        y.turn();
        y.save(0);
        addMark(y, "e");
        due("at(0) of the first one", x.at(0), 3);
        due("marks of the first one", x.count(1), 6);
        due("pad of the first one", x.count(5), 1);
        due("fault() of the first one", x.fault(), 1);
        due("undo() of the first one", x.undo(), 5);
        due("at(0) of the first one", x.at(0), 0);
        due("restore(0) of the first one", x.restore(0), 6);
        dueInOrder("restore(0) of the first one", x, 8);
    }

    private static void theConstantsAreAsTold() {
        about("NO_SUCH = -1, BAD_VALUE = -2, BAD_TEXT = -3, TOO_MANY = -4, NOT_POSSIBLE = -5, NONE = -6 .. SIZE = 0");
        due("NO_SUCH", CutMarks.NO_SUCH, -1);
        due("BAD_VALUE", CutMarks.BAD_VALUE, -2);
        due("BAD_TEXT", CutMarks.BAD_TEXT, -3);
        due("TOO_MANY", CutMarks.TOO_MANY, -4);
        due("NOT_POSSIBLE", CutMarks.NOT_POSSIBLE, -5);
        due("NONE", CutMarks.NONE, -6);
        due("SIZE", CutMarks.SIZE, 0);
    }

    private static void theFirstErrorThatAppliesIsReturned() {
        about("it names its errors in the order in which they are checked, and the first one that applies is returned");
        CutMarks x = deckOf(8, SIX);
        due("mark(), a fault and 6 marks", x.mark(), BAD_TEXT);
        due("product(6, 0), 6 marks", x.product(6, 0), NO_SUCH);
        due("product(0, 6), 6 marks", x.product(0, 6), NO_SUCH);
        due("product(-1, -1), 6 marks", x.product(-1, -1), NO_SUCH);
        due("power(6, 1), 6 marks", x.power(6, 1), NO_SUCH);
        due("power(6, 1000), 6 marks", x.power(6, 1000), NO_SUCH);
        due("power(-1, -1000), 6 marks", x.power(-1, -1000), NO_SUCH);
        due("power(0, 1000), 6 marks", x.power(0, 1000), BAD_VALUE);
        due("power(0, -1000), 6 marks", x.power(0, -1000), BAD_VALUE);
        due("power(0, 1), 6 marks", x.power(0, 1), TOO_MANY);
        due("of(6, 7)", x.of(6, 7), NO_SUCH);
        due("of(-1, -1)", x.of(-1, -1), NO_SUCH);
        due("image(6, 1000, 0)", x.image(6, 1000, 0), NO_SUCH);
        due("image(0, 1000, 8)", x.image(0, 1000, 8), NO_SUCH);
        due("image(NONE, -1000, -1)", x.image(NONE, -1000, -1), NO_SUCH);
        due("byCut(6, 8, 0)", x.byCut(6, 8, 0), NO_SUCH);
        due("byCut(0, 8, 8)", x.byCut(0, 8, 8), NO_SUCH);
        due("byCut(0, -1, -1)", x.byCut(0, -1, -1), NO_SUCH);
        due("becomes(6, 8)", x.becomes(6, 8), NO_SUCH);
        due("becomes(-1, -1)", x.becomes(-1, -1), NO_SUCH);
        due("restore(2), nothing saved", x.restore(2), BAD_VALUE);
        due("restore(-1), nothing saved", x.restore(-1), BAD_VALUE);
        CutMarks y = deckOf(8);
        due("of(0, 7), no marks", y.of(0, 7), NO_SUCH);
        due("power(0, 1000), no marks", y.power(0, 1000), NO_SUCH);
        due("becomes(0, 8), no marks", y.becomes(0, 8), NO_SUCH);
        while (y.count(5) < 80) {
            y.put(packed("(0,1)(2,"));
        }
        due("put(' '), a full pad", y.put(' '), BAD_VALUE);
        due("put(0), a full pad", y.put(0), BAD_VALUE);
        due("put(-1), a full pad", y.put(-1), BAD_VALUE);
    }

    private static void noneIsNoError() {
        about("NONE (-6) is not an error; it is returned only if no error applies.");
        CutMarks x = deckOf(8, "(0,1)", "(0,1,2)");
        x.cut(1);
        due("becomes(0, 1)", x.becomes(0, 1), NONE);
        due("becomes(0, 8)", x.becomes(0, 8), BAD_VALUE);
        due("becomes(2, 1)", x.becomes(2, 1), NO_SUCH);
        due("ordersIn(0)", x.ordersIn(0), NONE);
        due("ordersIn(2)", x.ordersIn(2), NO_SUCH);
        due("of(1, 6)", x.of(1, 6), NONE);
        due("of(2, 6)", x.of(2, 6), NO_SUCH);
        due("of(NONE, 6)", x.of(NONE, 6), NONE);
    }

    private static void everythingIsNumberedFrom0() {
        about("Everything is numbered from 0.");
        CutMarks x = deckOf(8);
        due("at(0)", x.at(0), 0);
        due("where(0)", x.where(0), 0);
        due("cut(0)", x.cut(0), 0);
        due("mark()", addMark(x, "(7,0)"), 0);
        due("image(0, 1, 0)", x.image(0, 1, 0), 7);
        due("save(0)", x.save(0), 1);
        due("save(1)", x.save(1), 1);
        due("restore(0)", x.restore(0), 1);
        due("restore(1)", x.restore(1), 1);
        putText(x, ")");
        due("fault()", x.fault(), 0);
    }

    private static void setsAreBitMasks() {
        about("Sets of cards, places and cuts are bit masks.");
        CutMarks x = deckOf(16, oneCycle(15), "(1,2,3,4,5,6,7,8,9,10,11,12,13,14,15)", oneCycle(16));
        due("of(0, 2), the place 15", x.of(0, 2), 1 << 15);
        due("of(1, 2), the place 0", x.of(1, 2), 1);
        due("of(2, 2), no place", x.of(2, 2), 0);
        due("of(NONE, 2), all places", x.of(NONE, 2), 0xFFFF);
        due("of(0, 5), the cut 0", x.of(0, 5), 1);
        due("of(2, 5), all cuts", x.of(2, 5), 0xFFFF);
        due("count(2), all cards", x.count(2), 0xFFFF);
        x.play(0);
        due("count(2), the card 15", x.count(2), 1 << 15);
        x.undo();
        x.play(2);
        due("count(2), no card", x.count(2), 0);
        CutMarks two = deckOf(2, "(0,1)");
        due("of(0, 5), 2 cards", two.of(0, 5), 3);
        due("of(NONE, 2), 2 cards", two.of(NONE, 2), 3);
    }

    // ---- the deck

    private static void theDeckHasSizeCardsAndPlaces() {
        about("A deck has SIZE cards, 0 to SIZE - 1, in the places 0 (on top) to SIZE - 1");
        for (int size = 2; size <= 16; size++) {
            CutMarks x = deckOf(size);
            due("at(SIZE - 1), SIZE " + size, x.at(size - 1), size - 1);
            due("where(SIZE - 1), SIZE " + size, x.where(size - 1), size - 1);
            due("at(0), SIZE " + size, x.at(0), 0);
            due("where(0), SIZE " + size, x.where(0), 0);
            dueForEach("at(), SIZE " + size, NO_SUCH, x::at, size, -1, size + 1, NONE, 16, 32, LEAST, MOST);
            dueForEach("where(), SIZE " + size, NO_SUCH, x::where, size, -1, size + 1, NONE, 16, 32, LEAST, MOST);
        }
    }

    private static void cardsAreInTheirPlacesWheneverSizeChanges() {
        about("at first, and whenever SIZE changes, each card is in the place of its number");
        CutMarks x = new CutMarks();
        dueInOrder("new", x, 8);
        for (int size = 2; size <= 16; size++) {
            x.turn();
            x.set(size);
            dueInOrder("turn(), set(" + size + ")", x, size);
        }
        x.turn();
        x.set(2);
        dueInOrder("turn(), set(2)", x, 2);
    }

    private static void theOneSettingIsSize() {
        about("There is one setting, SIZE (2 to 16; 8).");
        CutMarks x = new CutMarks();
        due("count(0), new", x.count(0), 8);
        due("set(2)", x.set(2), 8);
        due("set(1)", x.set(1), BAD_VALUE);
        due("count(0)", x.count(0), 2);
        due("set(16)", x.set(16), 2);
        due("set(17)", x.set(17), BAD_VALUE);
        due("count(0)", x.count(0), 16);
        dueForEach("set()", BAD_VALUE, x::set, 0, -1, -2, NONE, -8, 18, 32, 256 + 8, LEAST, LEAST + 8, MOST);
        due("count(0)", x.count(0), 16);
        int previous = 16;
        for (int size = 2; size <= 16; size++) {
            due("set(" + size + ")", x.set(size), previous);
            previous = size;
        }
    }

    // ---- marks

    private static void noTwoPlacesGoToTheSameOne() {
        about("A mark tells of each place to which place its card goes: of no two places to the same one.");
        for (int size : new int[] {2, 3, 7, 8, 15, 16}) {
            CutMarks x = deckOf(size, oneCycle(size), "(0," + (size - 1) + ")");
            x.product(0, 1);
            x.power(2, -3);
            x.riffle(1);
            x.cut(size - 1);
            x.trick();
            for (int mark = 0; mark < 5; mark++) {
                int targets = 0;
                for (int place = 0; place < size; place++) {
                    targets |= 1 << x.image(mark, 1, place);
                }
                due("the places that the mark " + mark + " brings to, SIZE " + size, targets, (1 << size) - 1);
            }
        }
    }

    private static void upTo6Marks() {
        about("There are up to 6 marks");
        List<ToLongFunction<CutMarks>> calls = new ArrayList<>();
        calls.add(x -> addMark(x, "(0,1)"));
        calls.add(x -> x.product(0, 0));
        calls.add(x -> x.power(0, 2));
        calls.add(CutMarks::trick);
        for (int call = 0; call < calls.size(); call++) {
            CutMarks x = deckOf(8, "(0,1,2)");
            for (int number = 1; number < 6; number++) {
                due("the call " + call + " (mark, product, power, trick)", calls.get(call).applyAsLong(x), number);
            }
            due("count(1) of six", x.count(1), 6);
            for (int other = 0; other < calls.size(); other++) {
                due("with six, the call " + other, calls.get(other).applyAsLong(x), TOO_MANY);
            }
            due("count(1) of six", x.count(1), 6);
            due("of(5, 1) is there", x.of(5, 1) > 0 ? 1 : 0, 1);
            due("of(6, 1)", x.of(6, 1), NO_SUCH);
            due("drop(5)", x.drop(5), 5);
            x.wipe();
            due("with five, the call " + call, calls.get(call).applyAsLong(x), 5);
        }
    }

    private static void marksAreNumberedAsTheyCame() {
        about("numbered in the order in which they came; when one goes, those behind it have numbers that are less by 1");
        for (int gone = 0; gone < 6; gone++) {
            CutMarks x = deckOf(8, "(0,1)", "(0,2)", "(0,3)", "(0,4)", "(0,5)", "(0,6)");
            for (int mark = 0; mark < 6; mark++) {
                due("image(" + mark + ", 1, 0)", x.image(mark, 1, 0), mark + 1);
            }
            due("drop(" + gone + ")", x.drop(gone), 5);
            for (int mark = 0; mark < 5; mark++) {
                due("image(" + mark + ", 1, 0) after drop(" + gone + ")", x.image(mark, 1, 0), mark < gone ? mark + 1 : mark + 2);
            }
            due("of(5, 0) after drop(" + gone + ")", x.of(5, 0), NO_SUCH);
            due("the next one after drop(" + gone + ")", addMark(x, "(0,7)"), 5);
            due("image(5, 1, 0)", x.image(5, 1, 0), 7);
            due("image(4, 1, 0)", x.image(4, 1, 0), gone == 5 ? 5 : 6);
        }
        CutMarks y = deckOf(8, SIX);
        for (int left = 5; left >= 0; left--) {
            due("drop(0)", y.drop(0), left);
        }
        due("drop(0) of none", y.drop(0), NO_SUCH);
    }

    private static void allMarksAreGoneWhenSizeChanges() {
        about("All marks are gone when SIZE changes.");
        for (int size : new int[] {2, 7, 9, 16}) {
            CutMarks x = deckOf(8, SIX);
            x.set(size);
            due("count(1) after set(" + size + ")", x.count(1), 0);
            dueForEach("of(.., 0) after set(" + size + ")", NO_SUCH, mark -> x.of(mark, 0), 0, 1, 5);
            due("the next mark", addMark(x, "(1,0)"), 0);
            due("of(0, 3)", x.of(0, 3), 2);
        }
    }

    private static void theProductDoesTheFirstOneFirst() {
        about("is the mark that does what the first one does, and then what the second one does");
        CutMarks x = deckOf(16, "(0,15)", "(14,15)");
        due("product(0, 1)", x.product(0, 1), 2);
        dueMark("(0,15), then (14,15)", x, 2, 14, 1, 2, 3, 4, 5, 6, 7, 8, 9, 10, 11, 12, 13, 15, 0);
        due("product(1, 0)", x.product(1, 0), 3);
        dueMark("(14,15), then (0,15)", x, 3, 15, 1, 2, 3, 4, 5, 6, 7, 8, 9, 10, 11, 12, 13, 0, 14);
        CutMarks y = deckOf(2, "(0,1)");
        due("product(0, 0)", y.product(0, 0), 1);
        dueStay("(0,1) twice", y, 1);
    }

    private static void marksCommuteIfBothProductsAreTheSame() {
        about("Two marks commute if both products of them are the same.");
        CutMarks x = deckOf(8, "(0,1)", "(1,2)", "(6,7)", "e");
        int[][] answers = {{1, 0, 1, 1}, {0, 1, 1, 1}, {1, 1, 1, 1}, {1, 1, 1, 1}};
        for (int mark = 0; mark < 4; mark++) {
            for (int other = 0; other < 4; other++) {
                due("commute(" + mark + ", " + other + ")", x.commute(mark, other), answers[mark][other]);
            }
            due("commute(" + mark + ", NONE), an empty trick", x.commute(mark, NONE), 1);
            due("commute(NONE, " + mark + "), an empty trick", x.commute(NONE, mark), 1);
        }
        CutMarks far = deckOf(16, "(0,15)", "(14,15)");
        due("commute(0, 1), that part at the place 15", far.commute(0, 1), 0);
    }

    private static void thePower0MovesNothing() {
        about("the power n of a mark is the product of n times that mark (0: nothing moves)");
        CutMarks x = deckOf(16, oneCycle(16));
        due("power(0, 0)", x.power(0, 0), 1);
        dueStay("the power 0", x, 1);
        x.cut(1);
        for (int place = 0; place < 16; place++) {
            due("image(0, 0, " + place + ")", x.image(0, 0, place), place);
            due("image(NONE, 0, " + place + ")", x.image(NONE, 0, place), place);
            due("image(0, 1, " + place + ")", x.image(0, 1, place), (place + 1) % 16);
            due("image(0, 15, " + place + ")", x.image(0, 15, place), (place + 15) % 16);
            due("image(0, 16, " + place + ")", x.image(0, 16, place), place);
            due("image(0, 17, " + place + ")", x.image(0, 17, place), (place + 1) % 16);
            due("image(0, 999, " + place + ")", x.image(0, 999, place), (place + 7) % 16);
        }
    }

    private static void thePowerBelow0IsThatOfTheInverse() {
        about("the inverse of a mark takes back what it does; the power -n is the power n of the inverse");
        CutMarks x = deckOf(16, oneCycle(16));
        due("power(0, -1)", x.power(0, -1), 1);
        due("product(0, 1)", x.product(0, 1), 2);
        due("product(1, 0)", x.product(1, 0), 3);
        dueStay("a mark and its inverse", x, 2);
        dueStay("the inverse and its mark", x, 3);
        x.cut(1);
        for (int place = 0; place < 16; place++) {
            due("image(0, -1, " + place + ")", x.image(0, -1, place), (place + 15) % 16);
            due("image(0, -16, " + place + ")", x.image(0, -16, place), place);
            due("image(0, -17, " + place + ")", x.image(0, -17, place), (place + 15) % 16);
            due("image(0, -999, " + place + ")", x.image(0, -999, place), (place + 9) % 16);
            due("image(1, 999, " + place + ")", x.image(1, 999, place), (place + 9) % 16);
            due("image(NONE, -999, " + place + ")", x.image(NONE, -999, place), (place + 7) % 16);
        }
    }

    private static void aFixedPlaceIsACycle() {
        about("The cycles of a mark are the circles of places that go to one another, also of one place alone (a fixed one).");
        for (int size = 2; size <= 16; size++) {
            CutMarks x = deckOf(size, "e", "(0,1)", oneCycle(size));
            due("of(0, 1), SIZE " + size, x.of(0, 1), size);
            due("of(0, 3), SIZE " + size, x.of(0, 3), 1);
            due("of(0, 2), SIZE " + size, x.of(0, 2), (1 << size) - 1);
            due("of(1, 1), SIZE " + size, x.of(1, 1), size - 1);
            due("of(1, 3), SIZE " + size, x.of(1, 3), 2);
            due("of(1, 2), SIZE " + size, x.of(1, 2), (1 << size) - 4);
            due("of(2, 1), SIZE " + size, x.of(2, 1), 1);
            due("of(2, 3), SIZE " + size, x.of(2, 3), size);
            due("of(2, 2), SIZE " + size, x.of(2, 2), 0);
        }
    }

    private static void theOrderIsAbove0() {
        about("Its order is the least n above 0 for which its power n moves nothing.");
        String[] texts = {"e", "(0,15)", oneCycle(16), "(0,1,2,3)(4,5,6,7,8)(9,10,11,12,13,14,15)", "(0,1,2,3,4,5)(6,7,8,9)",
            "(0,1)(2,3,4)(5,6,7,8,9)"};
        int[] orders = {1, 2, 16, 140, 12, 30};
        for (int i = 0; i < texts.length; i++) {
            CutMarks x = deckOf(16, texts[i]);
            due("of(0, 0), " + texts[i], x.of(0, 0), orders[i]);
            for (int n = 1; n <= orders[i]; n++) {
                x.power(0, n);
                due("all places stay by the power " + n + ", " + texts[i], x.of(1, 2) == 0xFFFF ? 1 : 0, n == orders[i] ? 1 : 0);
                x.drop(1);
            }
            due("of(NONE, 0), an empty trick", x.of(NONE, 0), 1);
        }
    }

    private static void theSignIs1IfSizeLessCyclesIsEven() {
        about("Its sign is 1 if SIZE less its cycles is even, otherwise -1.");
        for (int size = 2; size <= 16; size++) {
            CutMarks x = deckOf(size, "e", "(0,1)", oneCycle(size));
            due("of(0, 4), SIZE " + size + " less as many", x.of(0, 4), 2);
            due("of(1, 4), SIZE " + size + " less one fewer", x.of(1, 4), 0);
            due("of(2, 4), SIZE " + size + " less 1", x.of(2, 4), size % 2 == 1 ? 2 : 0);
        }
    }

    private static void theCutWrapsAround() {
        about("the place p goes to p - k, or, if that is below 0, to p - k + SIZE");
        for (int size = 2; size <= 16; size++) {
            for (int k = 0; k < size; k++) {
                CutMarks x = deckOf(size);
                due("cut(" + k + "), SIZE " + size, x.cut(k), k);
                for (int p = 0; p < size; p++) {
                    int target = p - k < 0 ? p - k + size : p - k;
                    due("where(" + p + ") after cut(" + k + "), SIZE " + size, x.where(p), target);
                    due("at(" + target + ") after cut(" + k + "), SIZE " + size, x.at(target), p);
                    due("image(NONE, 1, " + p + ") after cut(" + k + "), SIZE " + size, x.image(NONE, 1, p), target);
                }
            }
        }
    }

    private static void whatAMarkBecomesWrapsAround() {
        about("What a mark becomes by the cut k is the product of the inverse of the cut, the mark, and the cut (in this order).");
        for (int size : new int[] {2, 3, 8, 15, 16}) {
            CutMarks x = deckOf(size, "(0," + (size - 1) + ")", oneCycle(size));
            x.riffle(0);
            x.trick();
            for (int k = 0; k < size; k += size > 8 ? 7 : 1) {
                for (int mark = 0; mark < 3; mark++) {
                    for (int place = 0; place < size; place++) {
                        int moved = x.image(mark, 1, (place + k) % size);
                        int want = (moved - k + size) % size;
                        due("byCut(" + mark + ", " + k + ", " + place + "), SIZE " + size, x.byCut(mark, k, place), want);
                    }
                }
            }
        }
    }

    private static void theRiffleLaysTheHalves() {
        about("the place p goes to 2 * p, if it is in the upper half, otherwise to 2 * (p - (SIZE + 1) / 2) + 1");
        for (int size = 2; size <= 16; size++) {
            CutMarks x = deckOf(size);
            due("riffle(0), SIZE " + size, x.riffle(0), 0);
            for (int p = 0; p < size; p++) {
                int target = p < (size + 1) / 2 ? 2 * p : 2 * (p - (size + 1) / 2) + 1;
                due("where(" + p + ") after riffle(0), SIZE " + size, x.where(p), target);
                due("image(NONE, 1, " + p + ") after riffle(0), SIZE " + size, x.image(NONE, 1, p), target);
            }
        }
    }

    private static void theInnerRiffleLaysTheHalves() {
        about("the place p of the upper half goes to 2 * p + 1, otherwise to 2 * (p - SIZE / 2)");
        for (int size = 2; size <= 16; size++) {
            CutMarks x = deckOf(size);
            due("riffle(1), SIZE " + size, x.riffle(1), size / 2);
            for (int p = 0; p < size; p++) {
                int target = p < size / 2 ? 2 * p + 1 : 2 * (p - size / 2);
                due("where(" + p + ") after riffle(1), SIZE " + size, x.where(p), target);
                due("image(NONE, 1, " + p + ") after riffle(1), SIZE " + size, x.image(NONE, 1, p), target);
            }
        }
    }

    private static void halvesAreRoundedDown() {
        about("Divisions are rounded down.");
        CutMarks x = deckOf(3);
        x.riffle(0);
        dueDeck("riffle(0), the upper half has 2 of 3", x, 0, 2, 1);
        x.set(3);
        x.riffle(1);
        dueDeck("riffle(1), the upper half has 1 of 3", x, 1, 0, 2);
        x.set(15);
        x.riffle(0);
        dueDeck("riffle(0), the upper half has 8 of 15", x, 0, 8, 1, 9, 2, 10, 3, 11, 4, 12, 5, 13, 6, 14, 7);
        x.set(15);
        x.riffle(1);
        dueDeck("riffle(1), the upper half has 7 of 15", x, 7, 0, 8, 1, 9, 2, 10, 3, 11, 4, 12, 5, 13, 6, 14);
        x.set(2);
        x.riffle(0);
        dueDeck("riffle(0), the upper half has 1 of 2", x, 0, 1);
        x.riffle(1);
        dueDeck("riffle(1), the upper half has 1 of 2", x, 1, 0);
    }

    private static void turningBringsTheLastPlaceOnTop() {
        about("To turn the deck about is the mark by which the place p goes to SIZE - 1 - p.");
        for (int size = 2; size <= 16; size++) {
            CutMarks x = deckOf(size);
            due("turn(), SIZE " + size, x.turn(), size - 1);
            for (int p = 0; p < size; p++) {
                due("where(" + p + ") after turn(), SIZE " + size, x.where(p), size - 1 - p);
                due("image(NONE, 1, " + p + ") after turn(), SIZE " + size, x.image(NONE, 1, p), size - 1 - p);
            }
        }
    }

    // ---- tricks

    private static void theTrickBeginsEmpty() {
        about("All that was done with the deck since it was laid in order (as it was made, or by set()), or since restart(), "
            + "is the trick");
        CutMarks x = new CutMarks();
        due("count(4), new", x.count(4), 0);
        dueStay("the trick, new", x, NONE);
        x.cut(1);
        due("count(4) after cut(1)", x.count(4), 8);
        x.set(8);
        due("count(4) after set()", x.count(4), 0);
        dueStay("the trick after set()", x, NONE);
        x.riffle(0);
        x.restart();
        due("count(4) after restart()", x.count(4), 0);
        dueStay("the trick after restart()", x, NONE);
        dueDeck("restart()", x, 0, 4, 1, 5, 2, 6, 3, 7);
        x.turn();
        dueMark("the trick since restart()", x, NONE, 7, 6, 5, 4, 3, 2, 1, 0);
        x.set(2);
        due("count(4) after set(2)", x.count(4), 0);
    }

    private static void theTrickIsLongerThanTheHistory() {
        about("it, too, is a mark: the product of all that was done, one after the other");
        CutMarks x = deckOf(16, "(0,1)", "(15,14)");
        int[] wheres = new int[16];
        for (int call = 0; call < 20; call++) {
            x.play(0);
            x.cut(5);
            x.play(1);
            x.riffle(call % 2);
        }
        for (int card = 0; card < 16; card++) {
            wheres[card] = x.where(card);
        }
        dueMark("the trick", x, NONE, wheres);
        x.trick();
        dueMark("trick()", x, 2, wheres);
        x.play(2);
        for (int card = 0; card < 16; card++) {
            due("where(" + card + "), the trick again", x.where(card), wheres[wheres[card]]);
        }
    }

    // ---- texts

    private static void thePadHas80Characters() {
        about("The pad is a text of at most 80 characters.");
        CutMarks x = new CutMarks();
        for (int length = 8; length <= 80; length += 8) {
            due("put() of 8", x.put(packed("(0,1)(2,")), length);
        }
        due("put('e') beyond 80", x.put('e'), TOO_MANY);
        due("count(5)", x.count(5), 80);
        due("wipe()", x.wipe(), 80);
        due("count(5)", x.count(5), 0);
        for (int length = 1; length <= 80; length++) {
            due("put('e')", x.put('e'), length);
        }
        due("put('e') beyond 80", x.put('e'), TOO_MANY);
        for (int room = 1; room < 8; room++) {
            x.wipe();
            putText(x, "(0,1)(2,".repeat(9) + "12345678".substring(room));
            due("count(5)", x.count(5), 80 - room);
            due("put() of one too many", x.put(packed("12345678".substring(0, room + 1))), TOO_MANY);
            due("put() of 8", x.put(packed("12345678")), TOO_MANY);
            due("put() of just so many", x.put(packed("12345678".substring(0, room))), 80);
        }
    }

    private static void eIsAllThereIs() {
        about("\"e\" is the mark that moves nothing");
        for (int size : new int[] {2, 8, 16}) {
            CutMarks x = deckOf(size, "e");
            dueStay("e, SIZE " + size, x, 0);
        }
        dueFaultAtTheEnd(8, "ee", "e(", "e0", "e)", "e,", "E", "(e", "(0,1)e");
    }

    private static void aTextHasOneCycleOrMore() {
        about("text = \"e\" | cycle { cycle }");
        dueNoFault(16, "(0,1)", "(0,1)(2,3)", "(0,1)(2,3)(4,5)(6,7)(8,9)(10,11)(12,13)(14,15)");
        dueEndsTooEarly(16, "", "(", "(0,1)(", "(0,1)(2,3)(4,5)(6,7)(8,9)(10,11)(12,13)(14,15)(");
        dueFaultAtTheEnd(16, "(0,1),", "(0,1)0", "(0,1))", "((", "0", "1", ",", ")", "a", "!", "~");
    }

    private static void aCycleHasTwoPlacesOrMore() {
        about("cycle = \"(\" place \",\" place { \",\" place } \")\"");
        for (int size = 2; size <= 16; size++) {
            dueNoFault(size, "(0,1)", oneCycle(size));
        }
        dueFaultAtTheEnd(8, "()", "(0)", "(7)", "(,", "(0,)", "(0,,", "(0(", "(0,(", "(0,1(", "(0,1,)", "(0,1)(2)", "(0,1)()");
        dueFaultAtTheEnd(16, "(15)", "(10)", "(0,1)(15)");
        dueEndsTooEarly(16, "(0,1", "(0,15", "(15,1", oneCycle(16).substring(0, 38));
    }

    private static void theLastPlaceGoesToTheFirst() {
        about("in a cycle each place goes to the next one, the last one to the first one; places that are in no cycle stay");
        for (int size = 2; size <= 16; size++) {
            CutMarks x = deckOf(size, oneCycle(size));
            for (int place = 0; place < size; place++) {
                due("image(0, 1, " + place + "), SIZE " + size, x.image(0, 1, place), (place + 1) % size);
            }
        }
        CutMarks x = deckOf(8, "(3,0,7)(6,1)", "(7,6)");
        dueMark("(3,0,7)(6,1)", x, 0, 7, 6, 2, 0, 4, 5, 1, 3);
        dueMark("(7,6)", x, 1, 0, 1, 2, 3, 4, 5, 7, 6);
        CutMarks y = deckOf(16, "(15,0)(10,9)");
        dueMark("(15,0)(10,9)", y, 0, 15, 1, 2, 3, 4, 5, 6, 7, 8, 10, 9, 11, 12, 13, 14, 0);
    }

    private static void aPlaceIs0ToSizeLess1() {
        about("A place is 0 to SIZE - 1, without leading zeros, none twice in the text.");
        for (int size = 2; size <= 16; size++) {
            dueNoFault(size, "(0," + (size - 1) + ")", "(" + (size - 1) + ",0)");
            String beyond = "(0," + size;
            dueFault(size, beyond + ")", size < 10 ? 3 : beyond.length() - 1);
        }
        dueFault(10, "(0,10)", 4);
        dueFault(11, "(0,10)", NONE);
        dueFault(16, "(0,16)", 4);
        dueFaultAtTheEnd(16, "(16", "(19", "(20", "(90", "(100", "(150", "(0,1)(2,16", "(0,99");
        dueFaultAtTheEnd(9, "(9", "(10", "(0,9");
        about("A place is 0 to SIZE - 1, without leading zeros");
        dueFaultAtTheEnd(16, "(00", "(01", "(1,00", "(1,01", "(1,02", "(10,00", "(15,01");
        dueFault(16, "(010,1)", 2);
        dueFault(16, "(1,015)", 4);
        dueFault(16, "(0,01)", 3);
        dueFaultAtTheEnd(8, "(00", "(07", "(1,00");
        about("A place is 0 to SIZE - 1, .. none twice in the text");
        dueFaultAtTheEnd(8, "(0,0", "(7,7", "(0,1,0", "(0,1,1", "(0,1)(0", "(0,1)(1", "(0,1)(2,0", "(0,1)(2,3)(3");
        dueFaultAtTheEnd(16, "(0,0", "(15,15", "(10,11,10", "(10,11)(10", "(2,2", "(9,9");
        dueFault(16, "(1,1,", 4);
        dueFault(16, "(1,2)(1,", 7);
        dueFault(16, "(2,1)(3,1)", 9);
    }

    private static void theFaultIsTheFirstCharacterThatCannotStand() {
        about("The fault is the index of the first character that cannot stand at its place when the text is read from "
            + "left to right");
        dueFault(8, ")", 0);
        dueFault(8, "))((", 0);
        dueFault(8, "()e", 1);
        dueFault(8, "(0,1)(2,3)(4,5)(6,7)e", 20);
        dueFault(16, "(0,1)(2,3)(4,5)(6,7)(8,9)(10,11)(12,13)(14,15)e", 46);
        dueFault(16, oneCycle(16) + ")", 39);
        dueFault(8, "(0,1)e(", 5);
        CutMarks x = padOf(8, "(0,1)))))".repeat(8) + "12345678");
        due("count(5)", x.count(5), 80);
        due("fault(), a full pad", x.fault(), 5);
        for (char sign = '!'; sign <= '~'; sign++) {
            CutMarks y = new CutMarks();
            y.put(sign);
            due("fault() of " + sign, y.fault(), sign == 'e' ? NONE : sign == '(' ? 1 : 0);
            putText(y, "(0,1)");
            y.wipe();
            putText(y, "(0");
            y.put(sign);
            due("fault() of (0" + sign, y.fault(), sign == ',' ? 3 : 2);
            y.wipe();
            y.put('(');
            y.put(sign);
            due("fault() of (" + sign, y.fault(), sign >= '0' && sign <= '7' ? 2 : 1);
            y.wipe();
            putText(y, "(0,1");
            y.put(sign);
            due("fault() of (0,1" + sign, y.fault(), sign == ')' ? NONE : sign == ',' ? 5 : 4);
            y.wipe();
            putText(y, "(0,1)");
            y.put(sign);
            due("fault() of (0,1)" + sign, y.fault(), sign == '(' ? 6 : 5);
        }
    }

    private static void aDigitNeedsAPlaceThatBeginsSo() {
        about("a digit also cannot if no place that is not yet in the text begins with it and those ahead of it");
        dueFaultAtTheEnd(8, "(8", "(9", "(10", "(0,8", "(0,1,2,3,4,5,6,7,0", "(0,1,2,3,4,5,6,7)(7");
        dueEndsTooEarly(11, "(1,1", "(1,10", "(10,1");
        dueFaultAtTheEnd(11, "(11", "(1,11", "(10,1,1", "(1,10,1");
        dueFaultAtTheEnd(10, "(1,1", "(10");
        dueEndsTooEarly(16, "(1", "(1,1", "(10,11,12,13,14,15,1", "(1,10,11,12,13,14,1", "(1,10,11,12,13,14,15");
        dueFaultAtTheEnd(16, "(1,10,11,12,13,14,15,1", "(1,10)(11,12,13,14,15,1", "(2,2", "(0,0", "(3,20");
        dueFaultAtTheEnd(16, "(1,10,10", "(1,15)(2,15", "(10,11,12,13,14,15,10", "(10,11,12,13,14,15)(1,1");
        dueEndsTooEarly(2, "(0", "(1", "(0,1");
        dueFaultAtTheEnd(2, "(2", "(10", "(0,0", "(1,1", "(0,1,0", "(0,1)(1");
    }

    private static void signsBehindDigitsNeedAPlace() {
        about("\",\" and \")\" cannot either if the digits ahead of them are no place that is not yet in the text");
        dueFaultAtTheEnd(16, "(1,1,", "(1,1)", "(0,1,2,1,", "(0,1,2,1)", "(0,1)(1,", "(0,1)(2,1)", "(0,1)(1)");
        dueNoFault(16, "(10,1)", "(1,10)", "(2,1)(10,3)");
        dueEndsTooEarly(16, "(10,1,", "(1,10,", "(1,2)(10,");
        dueNoFault(11, "(10,1)", "(1,10)");
        dueFaultAtTheEnd(11, "(1,1)", "(1,1,");
    }

    private static void openingsAndCommasStandWithoutAPlace() {
        about("\"(\" and \",\" can stand though no place is left");
        for (int size = 2; size <= 16; size++) {
            String all = oneCycle(size);
            String open = all.substring(0, all.length() - 1);
            dueEndsTooEarly(size, open, open + ",", all + "(");
            dueNoFault(size, all);
            for (char digit = '0'; digit <= '9'; digit++) {
                dueFault(size, open + "," + digit, open.length() + 1);
                dueFault(size, all + "(" + digit, all.length() + 1);
            }
            dueFault(size, open + ",)", open.length() + 1);
            dueFault(size, all + "()", all.length() + 1);
        }
    }

    private static void aTextThatEndsTooEarlyHasItsLengthAsFault() {
        about("if there is none and the text ends too early (also if it is empty), it is the length of the text");
        CutMarks x = new CutMarks();
        due("fault(), an empty pad", x.fault(), 0);
        due("mark(), an empty pad", x.mark(), BAD_TEXT);
        String text = "(0,15)(10,1,2)";
        for (int length = 0; length <= text.length(); length++) {
            dueFault(16, text.substring(0, length), length == 6 || length == 14 ? NONE : length);
        }
        String longest = "(0,1)(2,3)(4,5)(6,7)(8,9)(10,11)(12,13)(14,15)";
        dueFault(16, longest.substring(0, 45), 45);
        dueFault(16, longest, NONE);
        dueFault(16, longest + "(", 47);
    }

    // ---- changes

    private static void aNewObjectHasNothingElse() {
        about("Creates a deck of 8 cards in order, without marks.");
        CutMarks x = new CutMarks();
        dueInOrder("new", x, 8);
        int[] counts = {8, 0, 255, 1, 0, 0, 0};
        for (int what = 0; what < counts.length; what++) {
            due("count(" + what + ")", x.count(what), counts[what]);
        }
        due("of(0, 0)", x.of(0, 0), NO_SUCH);
        due("drop(0)", x.drop(0), NO_SUCH);
        due("spread()", x.spread(), 0);
        due("share()", x.share(), Float.floatToIntBits(1.0f));
        due("fewestSteps()", x.fewestSteps(), 0);
        due("firstStep()", x.firstStep(), NONE);
        due("wipe()", x.wipe(), 0);
        due("fault()", x.fault(), 0);
        due("undo()", x.undo(), NOT_POSSIBLE);
        due("restore(0)", x.restore(0), NOT_POSSIBLE);
        due("restore(1)", x.restore(1), NOT_POSSIBLE);
        due("save(0)", x.save(0), 0);
        due("save(1)", x.save(1), 0);
    }

    private static void setLaysAllAnew() {
        about("Changes the size; the deck is in order then, without marks and with an empty trick.");
        for (int size : new int[] {2, 8, 16}) {
            CutMarks x = deckOf(8, SIX);
            x.cut(3);
            due("set(" + size + ")", x.set(size), 8);
            dueInOrder("set(" + size + ")", x, size);
            due("marks", x.count(1), 0);
            due("count(4)", x.count(4), 0);
            due("count(6)", x.count(6), 6);
            due("undo()", x.undo(), 5);
            dueDeck("undo()", x, 3, 4, 5, 6, 7, 0, 1, 2);
            due("marks after undo()", x.count(1), 6);
            due("count(4) after undo()", x.count(4), 8);
        }
    }

    private static void markEmptiesThePad() {
        about("A mark comes, as the pad tells it, and the pad is emptied.");
        CutMarks x = new CutMarks();
        putText(x, "(0,1,2)(3,4)(5,6)");
        due("mark()", x.mark(), 0);
        due("count(5)", x.count(5), 0);
        due("fault()", x.fault(), 0);
        due("mark() again", x.mark(), BAD_TEXT);
        due("put('e')", x.put('e'), 1);
        due("mark()", x.mark(), 1);
        dueStay("e", x, 1);
        dueMark("(0,1,2)(3,4)(5,6)", x, 0, 1, 2, 0, 4, 3, 6, 5, 7);
    }

    private static void markIsRefusedOnlyForAFaultOrSix() {
        about("Returns its number; BAD_TEXT if the pad has a fault; TOO_MANY if there are 6.");
        CutMarks x = deckOf(8, "e", "e", "e", "e", "e");
        putText(x, "(0,1");
        due("mark(), a text that ends early", x.mark(), BAD_TEXT);
        x.put(')');
        due("mark(), the sixth", x.mark(), 5);
        putText(x, "(0,2)");
        due("mark(), the seventh", x.mark(), TOO_MANY);
        due("fault(), the pad stays", x.fault(), NONE);
        due("count(5), the pad stays", x.count(5), 5);
        x.drop(0);
        due("mark(), the sixth again", x.mark(), 5);
        due("image(5, 1, 0)", x.image(5, 1, 0), 2);
        x.put('(');
        due("mark(), a fault and six", x.mark(), BAD_TEXT);
        due("count(5)", x.wipe(), 1);
    }

    private static void productTakesMarksThatAreThere() {
        about("The product of two marks comes as a mark. .. NO_SUCH if there is no such mark; TOO_MANY if there are 6.");
        CutMarks x = deckOf(8, "(0,1)", "(1,2)", "(2,3)");
        dueForEach("product(.., 0)", NO_SUCH, mark -> x.product(mark, 0), 3, -1, NONE, 6, LEAST, MOST);
        dueForEach("product(0, ..)", NO_SUCH, mark -> x.product(0, mark), 3, -1, NONE, 6, LEAST, MOST);
        due("product(2, 0)", x.product(2, 0), 3);
        due("product(0, 2)", x.product(0, 2), 4);
        due("product(4, 4)", x.product(4, 4), 5);
        dueStay("product(4, 4)", x, 5);
        due("product(0, 0), six", x.product(0, 0), TOO_MANY);
        due("product(6, 6), six", x.product(6, 6), NO_SUCH);
        CutMarks y = deckOf(8);
        due("product(0, 0), none", y.product(0, 0), NO_SUCH);
    }

    private static void powerTakesUpTo999() {
        about("n: -999 to 999");
        CutMarks x = deckOf(16, "(0,1,2,3)(4,5,6,7,8)(9,10,11,12,13,14,15)");
        due("power(0, 999)", x.power(0, 999), 1);
        dueMark("the power 999", x, 1, 3, 0, 1, 2, 8, 4, 5, 6, 7, 14, 15, 9, 10, 11, 12, 13);
        due("power(0, -999)", x.power(0, -999), 2);
        dueMark("the power -999", x, 2, 1, 2, 3, 0, 5, 6, 7, 8, 4, 11, 12, 13, 14, 15, 9, 10);
        dueForEach("power(0, ..)", BAD_VALUE, n -> x.power(0, n), 1000, -1000, 1001, -1001, 65536, LEAST, MOST);
        dueForEach("image(0, .., 0)", BAD_VALUE, n -> x.image(0, n, 0), 1000, -1000, 1001, -1001, 65536, LEAST, MOST);
        dueForEach("image(NONE, .., 0)", BAD_VALUE, n -> x.image(NONE, n, 0), 1000, -1000, 65536, LEAST, MOST);
        due("image(0, 999, 15)", x.image(0, 999, 15), 13);
        due("image(0, -999, 15)", x.image(0, -999, 15), 10);
        due("image(NONE, 999, 15)", x.image(NONE, 999, 15), 15);
        due("image(NONE, -999, 15)", x.image(NONE, -999, 15), 15);
        dueForEach("power(.., 0)", NO_SUCH, mark -> x.power(mark, 0), 3, -1, NONE, 6, LEAST, MOST);
        due("count(1)", x.count(1), 3);
    }

    private static void dropAndPlayTakeMarksThatAreThere() {
        about("A mark goes. .. Returns how many are left; NO_SUCH if there is no such mark.");
        CutMarks x = deckOf(8, "(0,1)", "(0,2)");
        dueForEach("drop()", NO_SUCH, x::drop, 2, -1, NONE, 6, LEAST, MOST);
        due("drop(1)", x.drop(1), 1);
        due("drop(1)", x.drop(1), NO_SUCH);
        due("drop(0)", x.drop(0), 0);
        due("drop(0)", x.drop(0), NO_SUCH);
        about("Does with the deck what a mark tells. .. Returns the card on top then; NO_SUCH if there is no such mark.");
        CutMarks y = deckOf(8, "(0,7)", "e", SIX[0], SIX[1], SIX[2], SIX[3]);
        dueForEach("play()", NO_SUCH, y::play, 6, -1, NONE, 7, LEAST, MOST);
        due("play(0)", y.play(0), 7);
        due("play(5)", y.play(5), 7);
        due("play(1)", y.play(1), 7);
        y.drop(5);
        due("play(5), gone", y.play(5), NO_SUCH);
    }

    private static void cutTakes0ToSizeLess1() {
        about("k: 0 to SIZE - 1");
        for (int size = 2; size <= 16; size++) {
            CutMarks x = deckOf(size, "(0,1)");
            due("cut(0), SIZE " + size, x.cut(0), 0);
            due("cut(SIZE - 1), SIZE " + size, x.cut(size - 1), size - 1);
            dueForEach("cut(), SIZE " + size, BAD_VALUE, x::cut, size, -1, size + 1, -size, NONE, 16, LEAST, MOST);
            due("byCut(0, 0, 0), SIZE " + size, x.byCut(0, 0, 0), 1);
            due("byCut(0, SIZE - 1, 1), SIZE " + size, x.byCut(0, size - 1, 1), size == 2 ? 0 : 2);
            dueForEach("byCut(0, .., 0), SIZE " + size, BAD_VALUE, k -> x.byCut(0, k, 0), size, -1, -size, NONE, 16, LEAST, MOST);
            due("becomes(0, 0), SIZE " + size, x.becomes(0, 0), 0);
            due("becomes(0, SIZE - 1), SIZE " + size, x.becomes(0, size - 1), size == 2 ? 0 : NONE);
            dueForEach("becomes(0, ..), SIZE " + size, BAD_VALUE, k -> x.becomes(0, k), size, -1, -size, NONE, 16, LEAST, MOST);
        }
    }

    private static void riffleTakes0Or1() {
        about("inner: 1 for the inner riffle, 0 for the outer one");
        CutMarks x = new CutMarks();
        dueForEach("riffle()", BAD_VALUE, x::riffle, 2, -1, 3, NONE, 256, LEAST, LEAST + 1, MOST);
        dueInOrder("refused riffles", x, 8);
        due("riffle(0)", x.riffle(0), 0);
        due("riffle(1)", x.riffle(1), 2);
    }

    private static void restartCountsThePlaces() {
        about("Returns how many places the trick moved that was.");
        for (int size : new int[] {2, 3, 15, 16}) {
            CutMarks x = deckOf(size, "(0," + (size - 1) + ")");
            due("restart(), an empty trick", x.restart(), 0);
            x.play(0);
            due("restart(), two places", x.restart(), 2);
            x.cut(1);
            due("restart(), all places", x.restart(), size);
            due("restart(), an empty trick again", x.restart(), 0);
            x.turn();
            x.turn();
            due("restart(), a trick that moves nothing", x.restart(), 0);
        }
    }

    // ---- what there is

    private static void ofTakesTheTrickToo() {
        about("mark: a mark, or NONE for the trick");
        CutMarks x = deckOf(8, SIX);
        int[] beyond = {6, -1, -5, -7, 7, LEAST, MOST};
        for (int what = 0; what <= 6; what++) {
            int asked = what;
            dueForEach("of(.., " + what + ")", NO_SUCH, mark -> x.of(mark, asked), beyond);
        }
        dueForEach("image(.., 0, 0)", NO_SUCH, mark -> x.image(mark, 0, 0), beyond);
        dueForEach("commuting()", NO_SUCH, x::commuting, beyond);
        dueForEach("commute(.., 0)", NO_SUCH, mark -> x.commute(mark, 0), beyond);
        dueForEach("commute(0, ..)", NO_SUCH, mark -> x.commute(0, mark), beyond);
        dueForEach("commute(NONE, ..)", NO_SUCH, mark -> x.commute(NONE, mark), beyond);
        dueForEach("commute(.., NONE)", NO_SUCH, mark -> x.commute(mark, NONE), beyond);
        due("of(5, 0)", x.of(5, 0), 1);
        due("image(5, 1, 7)", x.image(5, 1, 7), 7);
        due("commuting(5)", x.commuting(5), 40320);
        due("commute(5, 5)", x.commute(5, 5), 1);
        due("commute(NONE, NONE)", x.commute(NONE, NONE), 1);
        CutMarks y = deckOf(8);
        due("of(0, 0), no marks", y.of(0, 0), NO_SUCH);
        due("of(NONE, 0), no marks", y.of(NONE, 0), 1);
        due("image(NONE, 1, 7), no marks", y.image(NONE, 1, 7), 7);
        due("commuting(NONE), no marks", y.commuting(NONE), 40320);
        due("commute(NONE, NONE), no marks", y.commute(NONE, NONE), 1);
    }

    /** NONE stands for the trick only where the document says so. */
    private static void theTrickIsNoMarkElsewhere() {
        about("NO_SUCH if there is no such mark");
        CutMarks x = deckOf(8, "(0,1)");
        due("product(NONE, 0)", x.product(NONE, 0), NO_SUCH);
        due("product(0, NONE)", x.product(0, NONE), NO_SUCH);
        due("power(NONE, 1)", x.power(NONE, 1), NO_SUCH);
        due("drop(NONE)", x.drop(NONE), NO_SUCH);
        due("play(NONE)", x.play(NONE), NO_SUCH);
        due("byCut(NONE, 0, 0)", x.byCut(NONE, 0, 0), NO_SUCH);
        due("becomes(NONE, 0)", x.becomes(NONE, 0), NO_SUCH);
        due("ordersIn(NONE)", x.ordersIn(NONE), NO_SUCH);
    }

    private static void ofTakesWhatUpTo6() {
        about("what: 0 its order, .. 6 the mark (the lowest one) that is its inverse (NONE)");
        CutMarks x = deckOf(8, "(0,1,2)");
        due("of(0, 0)", x.of(0, 0), 3);
        due("of(0, 6)", x.of(0, 6), NONE);
        dueForEach("of(0, ..)", BAD_VALUE, what -> x.of(0, what), 7, -1, NONE, 8, 256, LEAST, MOST);
        dueForEach("of(NONE, ..)", BAD_VALUE, what -> x.of(NONE, what), 7, -1, NONE, 8, 256, LEAST, MOST);
    }

    private static void theInverseIsTheLowestMark() {
        about("6 the mark (the lowest one) that is its inverse (NONE)");
        CutMarks x = deckOf(8, "(0,1,2)", "(0,1)", "(0,2,1)", "(0,2,1)", "e", "(0,1,2)");
        int[] inverses = {2, 1, 0, 0, 4, 2};
        for (int mark = 0; mark < 6; mark++) {
            due("of(" + mark + ", 6)", x.of(mark, 6), inverses[mark]);
        }
        due("of(NONE, 6), an empty trick", x.of(NONE, 6), 4);
        x.play(0);
        due("of(NONE, 6)", x.of(NONE, 6), 2);
        x.play(1);
        due("of(NONE, 6), no mark is so", x.of(NONE, 6), NONE);
        x.drop(2);
        due("of(0, 6)", x.of(0, 6), 2);
        x.drop(2);
        due("of(0, 6), gone", x.of(0, 6), NONE);
    }

    private static void theCutsThatCommuteHave0() {
        about("5 cuts with which it commutes, as a set");
        CutMarks x = deckOf(12, "(0,6)(1,7)(2,8)(3,9)(4,10)(5,11)", "(0,3,6,9)", "(0,2,4,6,8,10)", "(0,6)", "(0,1)", "(0,4,8)");
        int[] sets = {0xFFF, 0x249, 0x555, 0x41, 1, 0x111};
        for (int mark = 0; mark < 6; mark++) {
            due("of(" + mark + ", 5)", x.of(mark, 5), sets[mark]);
        }
        for (int size = 2; size <= 16; size++) {
            CutMarks y = deckOf(size, "(0,1)", oneCycle(size));
            due("of(NONE, 5), SIZE " + size, y.of(NONE, 5), (1 << size) - 1);
            due("of(0, 5), SIZE " + size, y.of(0, 5), size == 2 ? 3 : 1);
            due("of(1, 5), SIZE " + size, y.of(1, 5), (1 << size) - 1);
        }
    }

    private static void imageTakesPlaces() {
        about("Returns the place; NO_SUCH if there is no such mark or place; BAD_VALUE if n is out of range.");
        for (int size = 2; size <= 16; size++) {
            CutMarks x = deckOf(size, oneCycle(size));
            due("image(0, 1, SIZE - 1), SIZE " + size, x.image(0, 1, size - 1), 0);
            due("image(0, -1, 0), SIZE " + size, x.image(0, -1, 0), size - 1);
            int[] beyond = {size, -1, size + 1, NONE, 16, LEAST, MOST};
            dueForEach("image(0, 1, ..), SIZE " + size, NO_SUCH, place -> x.image(0, 1, place), beyond);
            dueForEach("image(NONE, 0, ..), SIZE " + size, NO_SUCH, place -> x.image(NONE, 0, place), beyond);
            dueForEach("byCut(0, 0, ..), SIZE " + size, NO_SUCH, place -> x.byCut(0, 0, place), beyond);
            due("byCut(0, 0, SIZE - 1), SIZE " + size, x.byCut(0, 0, size - 1), 0);
        }
    }

    private static void asManyCommuteAsTheCyclesTell() {
        about("for each length of its cycles that length to the power of how many they are, times the product of the numbers "
            + "from 1 to how many they are, all multiplied");
        long all = 1;
        for (int size = 2; size <= 16; size++) {
            all *= size;
            CutMarks x = deckOf(size, "e", oneCycle(size), "(0,1)");
            due("commuting(0), SIZE " + size, x.commuting(0), all);
            due("commuting(NONE), SIZE " + size, x.commuting(NONE), all);
            due("commuting(1), SIZE " + size, x.commuting(1), size);
            due("commuting(2), SIZE " + size, x.commuting(2), size == 2 ? 2 : 2 * (all / size / (size - 1)));
        }
        CutMarks y = deckOf(16, "(0,1)(2,3)(4,5)(6,7)(8,9)(10,11)(12,13)(14,15)", "(0,1,2)(3,4,5)(6,7)(8,9)");
        due("commuting(0), eight cycles of 2", y.commuting(0), 256L * 40320L);
        due("commuting(1), two of 3, two of 2, six of 1", y.commuting(1), 9L * 2L * 4L * 2L * 720L);
    }

    private static void countTakesWhatUpTo6() {
        about("what: 0 the size, .. 6 how many changes can be undone");
        CutMarks x = deckOf(16, SIX);
        putText(x, "(0,1)(2,".repeat(10));
        dueForEach("count()", BAD_VALUE, x::count, 7, -1, NONE, 8, 256, LEAST, MOST);
        int[] full = {16, 6, 0xFFFF, 1, 0, 80, 6};
        for (int what = 0; what < full.length; what++) {
            due("count(" + what + ")", x.count(what), full[what]);
        }
        x.turn();
        int[] turned = {16, 6, 0, 0, 16, 80, 6};
        for (int what = 0; what < turned.length; what++) {
            due("count(" + what + "), turned", x.count(what), turned[what]);
        }
    }

    private static void theDeckIsInOrderOnlyIfAllCardsAre() {
        about("3 whether the deck is in order (1 or 0)");
        for (int size = 2; size <= 16; size++) {
            CutMarks x = deckOf(size, "(0,1)", "(" + (size - 1) + "," + (size - 2) + ")");
            due("count(3), SIZE " + size, x.count(3), 1);
            for (int mark = 0; mark < 2; mark++) {
                x.play(mark);
                due("count(3), two cards changed, SIZE " + size, x.count(3), 0);
                x.restart();
                due("count(3) after restart(), SIZE " + size, x.count(3), 0);
                x.play(mark);
                due("count(3), changed back, SIZE " + size, x.count(3), 1);
                due("count(4), the trick since restart(), SIZE " + size, x.count(4), 2);
                x.restart();
            }
        }
    }

    private static void theSpreadIsTheSumByTheSize() {
        about("the differences of all cards and their places, without signs, added as doubles from 0.0 on, place by place, "
            + "divided by the size cast to a double");
        for (int size = 2; size <= 16; size++) {
            CutMarks x = deckOf(size);
            due("spread(), in order, SIZE " + size, x.spread(), Double.doubleToLongBits(0.0));
            for (int k = 1; k < size; k++) {
                x.cut(k);
                double sum = 2.0 * k * (size - k);
                due("spread() after cut(" + k + "), SIZE " + size, x.spread(), Double.doubleToLongBits(sum / (double) size));
                x.undo();
            }
            x.turn();
            double most = size * size / 2;
            due("spread() after turn(), SIZE " + size, x.spread(), Double.doubleToLongBits(most / (double) size));
            x.restart();
            due("spread() after restart(), SIZE " + size, x.spread(), Double.doubleToLongBits(most / (double) size));
            CutMarks y = deckOf(size, "(0,1)", "(0," + (size - 1) + ")");
            y.play(0);
            due("spread(), the least, SIZE " + size, y.spread(), Double.doubleToLongBits(2.0 / (double) size));
            y.play(0);
            y.play(1);
            double ends = 2.0 * (size - 1);
            due("spread(), the ends, SIZE " + size, y.spread(), Double.doubleToLongBits(ends / (double) size));
        }
    }

    private static void theShareIsFrom0To1() {
        about("how many they are, cast to a float, divided by the size cast to a float");
        for (int size = 2; size <= 16; size++) {
            for (int moved = 0; moved <= size; moved++) {
                if (moved != 1) {
                    CutMarks x = deckOf(size, moved == 0 ? "e" : oneCycle(moved));
                    x.play(0);
                    float share = (float) (size - moved) / (float) size;
                    due("share(), " + moved + " of " + size + " moved", x.share(), Float.floatToIntBits(share));
                    x.restart();
                    due("share() after restart()", x.share(), Float.floatToIntBits(share));
                }
            }
        }
    }

    // ---- what if

    private static void becomesFindsTheLowestMark() {
        about("Returns the mark, the lowest one that is so; .. NONE if there is none.");
        CutMarks x = deckOf(8, "(0,1)", "(6,7)", "(6,7)", "(7,0)", "(0,1)");
        due("becomes(0, 0)", x.becomes(0, 0), 0);
        due("becomes(4, 0)", x.becomes(4, 0), 0);
        due("becomes(0, 2)", x.becomes(0, 2), 1);
        due("becomes(2, 0)", x.becomes(2, 0), 1);
        due("becomes(0, 1)", x.becomes(0, 1), 3);
        due("becomes(3, 7)", x.becomes(3, 7), 0);
        due("becomes(0, 3)", x.becomes(0, 3), NONE);
        dueForEach("becomes(.., 0)", NO_SUCH, mark -> x.becomes(mark, 0), 5, -1, NONE, LEAST, MOST);
        dueForEach("byCut(.., 0, 0)", NO_SUCH, mark -> x.byCut(mark, 0, 0), 5, -1, NONE, LEAST, MOST);
        x.drop(3);
        due("becomes(0, 1), gone", x.becomes(0, 1), NONE);
    }

    private static void ordersInIsTheLeast() {
        about("Tells how often a mark has to be played, 0 or more times, so that the deck is in order.");
        CutMarks x = deckOf(16, "(0,1,2,3)(4,5,6,7,8)(9,10,11,12,13,14,15)", "e", "(0,1)");
        for (int mark = 0; mark < 3; mark++) {
            due("ordersIn(" + mark + "), in order", x.ordersIn(mark), 0);
        }
        for (int times = 1; times <= 140; times++) {
            x.play(0);
            due("ordersIn(0) after " + times + " times", x.ordersIn(0), (140 - times) % 140);
            if (times == 1 || times == 139) {
                due("ordersIn(1), never", x.ordersIn(1), NONE);
                due("ordersIn(2), never", x.ordersIn(2), NONE);
            }
        }
        dueForEach("ordersIn()", NO_SUCH, x::ordersIn, 3, -1, NONE, 6, LEAST, MOST);
        for (int size = 2; size <= 16; size++) {
            CutMarks z = deckOf(size, oneCycle(size));
            for (int times = 1; times <= size; times++) {
                z.play(0);
                due("ordersIn(0) after " + times + " times, SIZE " + size, z.ordersIn(0), size - times);
            }
        }
        CutMarks y = deckOf(8, "(0,1,2)", "(3,4)", "(0,2)");
        y.play(1);
        y.play(0);
        due("ordersIn(0), another cycle is not in order", y.ordersIn(0), NONE);
        due("ordersIn(1), another cycle is not in order", y.ordersIn(1), NONE);
        y.play(1);
        due("ordersIn(0)", y.ordersIn(0), 2);
        due("ordersIn(2), the same places in another way", y.ordersIn(2), NONE);
        y.restart();
        due("ordersIn(0) after restart()", y.ordersIn(0), 2);
    }

    /** Steps are told as in the document: 0 a cut by 1, 1 an outer riffle, 2 an inner riffle, 3 a turn. */
    private static void step(CutMarks x, int step) {
        if (step == 0) {
            x.cut(1);
        } else if (step == 3) {
            x.turn();
        } else {
            x.riffle(step - 1);
        }
    }

    private static void dueSteps(int size, String done, int fewest, int first) {
        CutMarks x = deckOf(size);
        for (int i = 0; i < done.length(); i++) {
            step(x, done.charAt(i) - '0');
        }
        due("fewestSteps(), SIZE " + size + ", done " + done, x.fewestSteps(), fewest);
        due("firstStep(), SIZE " + size + ", done " + done, x.firstStep(), first);
    }

    private static void noMoreThan5Steps() {
        about("Returns how few; NONE if it takes more than 5.");
        int[][] cutsOf10 = {{0, 0}, {1, 3}, {2, 4}, {3, 5}, {4, NONE}, {5, 5}, {6, 4}, {7, 3}, {8, 2}, {9, 1}};
        for (int[] one : cutsOf10) {
            CutMarks x = deckOf(10);
            x.cut(one[0]);
            due("fewestSteps() after cut(" + one[0] + ")", x.fewestSteps(), one[1]);
            due("firstStep() is NONE just then", x.firstStep() == NONE ? 1 : 0, one[1] == NONE || one[1] == 0 ? 1 : 0);
        }
        int[] cutsOf16 = {0, 3, 4, 5, NONE, NONE, NONE, 5, 4, NONE, NONE, 5, 4, 3, 2, 1};
        for (int k = 0; k < 16; k++) {
            CutMarks x = deckOf(16);
            x.cut(k);
            due("fewestSteps() after cut(" + k + ") of 16", x.fewestSteps(), cutsOf16[k]);
        }
        dueSteps(8, "010", NONE, NONE);
        dueSteps(8, "020", NONE, NONE);
        dueSteps(8, "01", 5, 1);
        dueSteps(16, "01", NONE, NONE);
        dueSteps(12, "1", NONE, NONE);
        dueSteps(16, "002", NONE, NONE);
    }

    private static void theDeckInOrderHasNoFirstStep() {
        about("Returns the step; NONE if the deck is in order, or it takes more than 5.");
        for (int size = 2; size <= 16; size++) {
            dueSteps(size, "", 0, NONE);
            dueSteps(size, "33", 0, NONE);
            dueSteps(size, "3", 1, size == 2 ? 0 : 3);
        }
        dueSteps(2, "1", 0, NONE);
        dueSteps(16, "1111", 0, NONE);
        dueSteps(16, "111", 1, 1);
    }

    private static void theFirstStepIsTheLowestOne() {
        about("Returns the first step of such a way: 0 a cut by 1, 1 an outer riffle, 2 an inner riffle, 3 a turn, "
            + "the lowest one.");
        dueSteps(2, "0", 1, 0);
        dueSteps(3, "0", 2, 0);
        dueSteps(5, "1", 3, 0);
        dueSteps(5, "2", 3, 1);
        dueSteps(5, "03", 2, 0);
        dueSteps(8, "110", 4, 0);
        dueSteps(8, "12", 4, 1);
        dueSteps(8, "113", 2, 1);
        dueSteps(8, "13", 3, 1);
        dueSteps(8, "2", 3, 2);
        dueSteps(8, "001", 5, 2);
        dueSteps(8, "10", 5, 0);
        dueSteps(8, "0", 3, 3);
        dueSteps(16, "112", 5, 1);
        dueSteps(16, "22", 3, 2);
        dueSteps(16, "103", 5, 0);
        dueSteps(16, "20", 5, 3);
    }

    // ---- texts: put, wipe, fault

    private static void putTakes1To8Characters() {
        about("characters: 1 to 8 characters");
        for (int length = 1; length <= 8; length++) {
            CutMarks x = new CutMarks();
            due("put() of " + length, x.put(packed("(0,1)(2,".substring(0, length))), length);
            due("fault()", x.fault(), length == 5 ? NONE : length);
        }
        CutMarks y = new CutMarks();
        due("put(0), no character", y.put(0), BAD_VALUE);
        due("count(5)", y.count(5), 0);
    }

    private static void putTakesCodes33To126() {
        about("BAD_VALUE if there is no character, a code is not 33 to 126");
        for (int code = 0; code <= 255; code++) {
            boolean allowed = code >= 33 && code <= 126;
            for (int behind = 0; behind < 8; behind++) {
                for (int length : new int[] {behind + 1, 8}) {
                    long others = packed("aaaaaaaa".substring(8 - length)) & ~(255L << 8 * behind);
                    boolean shorter = code == 0 && behind == length - 1 && behind > 0;
                    CutMarks x = new CutMarks();
                    long want = allowed ? length : shorter ? length - 1 : BAD_VALUE;
                    long characters = others | (long) code << 8 * behind;
                    due("put() of " + length + ", code " + code + " behind " + behind, x.put(characters), want);
                    due("count(5)", x.count(5), want < 0 ? 0 : want);
                }
            }
        }
    }

    private static void nothingStandsAbove8BitsThatAre0() {
        about("8 bits that are 0 mean that there are no more characters, and everything above them has to be 0, too");
        for (int length = 0; length < 8; length++) {
            long text = packed("aaaaaaa".substring(7 - length));
            for (int bit = 8 * length + 8; bit < 64; bit++) {
                CutMarks x = new CutMarks();
                due("put() of " + length + " with the bit " + bit, x.put(text | 1L << bit), BAD_VALUE);
            }
            CutMarks x = new CutMarks();
            due("put() of " + length, x.put(text), length == 0 ? BAD_VALUE : length);
        }
        CutMarks x = new CutMarks();
        due("put() of the greatest number", x.put(Long.MAX_VALUE), BAD_VALUE);
        due("put() of the least number", x.put(Long.MIN_VALUE), BAD_VALUE);
        due("put(-1)", x.put(-1), BAD_VALUE);
        due("put() of 8 greatest codes", x.put(0x7E7E7E7E7E7E7E7EL), 8);
        due("put() of 8 least codes", x.put(0x2121212121212121L), 16);
    }

    private static void theLowest8BitsAreTheLastCharacter() {
        about("its lowest 8 bits are the last character, the next 8 bits the one before, and so on");
        CutMarks x = new CutMarks();
        due("put() of (7", x.put('(' << 8 | '7'), 2);
        due("put() of ,0)", x.put(',' << 16 | '0' << 8 | ')'), 5);
        due("mark()", x.mark(), 0);
        dueMark("(7,0)", x, 0, 7, 1, 2, 3, 4, 5, 6, 0);
        x.put(packed("(0,1,2,3"));
        x.put(packed(",4,5,6,7"));
        x.put(')');
        due("mark()", x.mark(), 1);
        dueMark("the whole cycle", x, 1, 1, 2, 3, 4, 5, 6, 7, 0);
    }

    private static void wipeReturnsTheLength() {
        about("Empties the pad, and returns the length that it had.");
        CutMarks x = new CutMarks();
        due("wipe(), an empty pad", x.wipe(), 0);
        x.put('e');
        due("wipe(), one character", x.wipe(), 1);
        putText(x, "e".repeat(80));
        due("wipe(), a full pad", x.wipe(), 80);
        due("wipe(), an empty pad", x.wipe(), 0);
        due("put('e')", x.put('e'), 1);
        due("fault()", x.fault(), NONE);
        due("count(6), it is no change", x.count(6), 0);
    }

    private static void faultIsNoneIfThereIsNone() {
        about("Returns the fault of the pad, NONE if there is none.");
        CutMarks x = padOf(8, "(0,8)");
        due("fault(), 8 cards", x.fault(), 3);
        x.set(9);
        due("fault(), 9 cards", x.fault(), NONE);
        x.undo();
        due("fault(), 8 cards again", x.fault(), 3);
        due("count(5)", x.count(5), 5);
    }

    // ---- undo, saving

    private static List<ToLongFunction<CutMarks>> changes() {
        List<ToLongFunction<CutMarks>> calls = new ArrayList<>();
        calls.add(x -> x.set(8));
        calls.add(x -> addMark(x, "(0,1)"));
        calls.add(x -> x.product(0, 0));
        calls.add(x -> x.power(0, 0));
        calls.add(CutMarks::trick);
        calls.add(x -> x.drop(0));
        calls.add(x -> x.play(0));
        calls.add(x -> x.cut(0));
        calls.add(x -> x.riffle(0));
        calls.add(CutMarks::turn);
        calls.add(CutMarks::restart);
        calls.add(x -> x.restore(0));
        return calls;
    }

    private static void eachChangeRecordsOneState() {
        about("each method that is a change, and returns no error, records the state before it (also if nothing is different "
            + "then)");
        List<ToLongFunction<CutMarks>> calls = changes();
        for (int call = 0; call < calls.size(); call++) {
            CutMarks x = deckOf(8, "e", "(0,1)");
            x.save(0);
            x.cut(3);
            due("count(6)", x.count(6), 3);
            due("the change " + call + " is done", calls.get(call).applyAsLong(x) >= 0 ? 1 : 0, 1);
            due("count(6) after the change " + call, x.count(6), 4);
            due("undo() of the change " + call, x.undo(), 3);
            dueDeck("undo() of the change " + call, x, 3, 4, 5, 6, 7, 0, 1, 2);
            due("marks", x.count(1), 2);
            due("of(0, 0)", x.of(0, 0), 1);
            due("of(1, 0)", x.of(1, 0), 2);
            due("count(4)", x.count(4), 8);
        }
        CutMarks y = deckOf(2, "e");
        y.save(1);
        int before = y.count(6);
        y.riffle(0);
        y.play(0);
        y.restart();
        y.restore(1);
        due("count(6), four changes by which nothing is different", y.count(6), before + 4);
        y.set(2);
        due("count(6), the sixth", y.count(6), 6);
        y.cut(0);
        due("count(6), one more", y.count(6), 6);
    }

    private static void otherCallsRecordNothing() {
        about("each method that is a change, and returns no error, records the state before it");
        CutMarks x = deckOf(8, "(0,1)");
        x.cut(3);
        due("count(6)", x.count(6), 2);
        x.at(0);
        x.where(0);
        x.of(0, 0);
        x.image(0, 1, 0);
        x.commuting(0);
        x.commute(0, 0);
        x.count(0);
        x.spread();
        x.share();
        x.byCut(0, 1, 1);
        x.becomes(0, 1);
        x.ordersIn(0);
        x.fewestSteps();
        x.firstStep();
        x.put('e');
        x.fault();
        x.wipe();
        x.save(0);
        x.save(1);
        due("count(6)", x.count(6), 2);
        dueDeck("calls that are no changes", x, 3, 4, 5, 6, 7, 0, 1, 2);
        due("undo()", x.undo(), 1);
        dueInOrder("undo()", x, 8);
        due("undo()", x.undo(), 0);
        due("undo()", x.undo(), NOT_POSSIBLE);
    }

    private static void theHistoryHas6States() {
        about("when one more is recorded, the oldest one is dropped");
        for (int changes = 0; changes <= 20; changes++) {
            CutMarks x = new CutMarks();
            for (int change = 1; change <= changes; change++) {
                x.cut(1);
                due("count(6) after " + change, x.count(6), Math.min(change, 6));
            }
            int kept = Math.min(changes, 6);
            for (int left = kept - 1; left >= 0; left--) {
                due("undo() after " + changes, x.undo(), left);
                due("at(0)", x.at(0), (changes - kept + left) % 8);
                due("count(6)", x.count(6), left);
            }
            due("undo() of none, after " + changes, x.undo(), NOT_POSSIBLE);
            due("at(0)", x.at(0), (changes - kept) % 8);
        }
    }

    private static void theHistoryGoesOnAfterUndo() {
        about("Undoes the latest change: everything except the pad, the slots and the history is as it was before it.");
        CutMarks x = new CutMarks();
        int[] tops = new int[200];
        int kept = 0;
        int now = 0;
        for (int round = 0; round < 40; round++) {
            for (int change = 0; change < 1 + round % 7; change++) {
                tops[now + 1] = (tops[now] + 1 + round % 5) % 8;
                due("cut()", x.cut(1 + round % 5), tops[now + 1]);
                now++;
                kept = Math.min(kept + 1, 6);
            }
            for (int back = 0; back < round % 4; back++) {
                due("undo()", x.undo(), kept > 0 ? kept - 1 : NOT_POSSIBLE);
                now -= kept > 0 ? 1 : 0;
                kept = Math.max(kept - 1, 0);
                due("at(0)", x.at(0), tops[now]);
            }
        }
        due("count(6)", x.count(6), kept);
    }

    private static void undoLeavesPadAndSlots() {
        about("everything except the pad, the slots and the history is as it was before it");
        CutMarks x = new CutMarks();
        x.save(0);
        putText(x, "(0,1)");
        x.mark();
        due("undo() of mark()", x.undo(), 0);
        due("count(5), the pad stays empty", x.count(5), 0);
        due("count(1)", x.count(1), 0);
        x.cut(2);
        x.save(1);
        putText(x, "(0,7)");
        due("undo() of cut()", x.undo(), 0);
        due("count(5), the pad stays", x.count(5), 5);
        due("fault()", x.fault(), NONE);
        due("restore(1), the slot stays", x.restore(1), 0);
        due("at(0)", x.at(0), 2);
        due("undo() of restore()", x.undo(), 0);
        due("at(0)", x.at(0), 0);
        due("restore(1), the slot still stays", x.restore(1), 0);
        due("at(0)", x.at(0), 2);
        due("mark()", x.mark(), 0);
        due("image(0, 1, 0)", x.image(0, 1, 0), 7);
    }

    private static void undoBringsBackSizeDeckTrickAndMarks() {
        about("Undoes the latest change: everything except the pad, the slots and the history is as it was before it.");
        CutMarks x = deckOf(5, "(0,1)", "(3,4)");
        x.cut(2);
        x.restart();
        x.turn();
        x.set(16);
        addMark(x, oneCycle(16));
        x.cut(15);
        due("undo()", x.undo(), 5);
        dueInOrder("undo() of cut()", x, 16);
        due("undo()", x.undo(), 4);
        due("marks after undo() of mark()", x.count(1), 0);
        due("undo()", x.undo(), 3);
        dueDeck("undo() of set()", x, 1, 0, 4, 3, 2);
        due("marks after undo() of set()", x.count(1), 2);
        dueMark("(3,4)", x, 1, 0, 1, 2, 4, 3);
        dueMark("the trick", x, NONE, 4, 3, 2, 1, 0);
        due("undo()", x.undo(), 2);
        dueDeck("undo() of turn()", x, 2, 3, 4, 0, 1);
        dueStay("the trick", x, NONE);
        due("undo()", x.undo(), 1);
        dueMark("the trick, undo() of restart()", x, NONE, 3, 4, 0, 1, 2);
        due("undo()", x.undo(), 0);
        dueInOrder("undo() of cut()", x, 5);
        due("undo()", x.undo(), NOT_POSSIBLE);
        due("marks", x.count(1), 2);
    }

    private static void thereAreTwoSlots() {
        about("slot: 0 or 1");
        CutMarks x = deckOf(8, SIX);
        dueForEach("save()", BAD_VALUE, x::save, 2, -1, 3, NONE, 256, LEAST, LEAST + 1, MOST);
        dueForEach("restore()", BAD_VALUE, x::restore, 2, -1, 3, NONE, 256, LEAST, LEAST + 1, MOST);
        due("save(0)", x.save(0), 6);
        x.set(3);
        due("save(1)", x.save(1), 0);
        due("restore(0)", x.restore(0), 6);
        due("restore(1)", x.restore(1), 0);
        due("count(0)", x.count(0), 3);
        dueForEach("restore(), both saved", BAD_VALUE, x::restore, 2, -1, LEAST, MOST);
    }

    private static void nothingWasSavedAtFirst() {
        about("NOT_POSSIBLE if nothing was saved in it");
        CutMarks x = deckOf(8, "e");
        due("restore(0)", x.restore(0), NOT_POSSIBLE);
        due("restore(1)", x.restore(1), NOT_POSSIBLE);
        due("save(1)", x.save(1), 1);
        due("restore(0)", x.restore(0), NOT_POSSIBLE);
        due("restore(1)", x.restore(1), 1);
        CutMarks y = deckOf(8);
        due("save(0), no marks", y.save(0), 0);
        due("restore(1)", y.restore(1), NOT_POSSIBLE);
        y.set(9);
        due("restore(0), no marks", y.restore(0), 0);
        due("count(0)", y.count(0), 8);
    }

    private static void aSlotIsOverwrittenAndKept() {
        about("Saves everything except the pad, the history and the slots in a slot, and overwrites what was saved there.");
        CutMarks x = deckOf(8, SIX);
        x.cut(3);
        x.restart();
        x.turn();
        putText(x, "(0,1)");
        due("save(0)", x.save(0), 6);
        x.wipe();
        x.drop(0);
        x.cut(5);
        x.set(2);
        putText(x, "e");
        due("restore(0)", x.restore(0), 6);
        dueDeck("restore(0)", x, 2, 1, 0, 7, 6, 5, 4, 3);
        dueMark("the trick", x, NONE, 7, 6, 5, 4, 3, 2, 1, 0);
        dueMark(SIX[0], x, 0, 1, 2, 0, 3, 4, 5, 6, 7);
        due("count(5), the pad is not saved", x.count(5), 1);
        due("count(6), nor the history", x.count(6), 6);
        x.set(3);
        due("save(0) again", x.save(0), 0);
        x.set(4);
        due("restore(0), overwritten", x.restore(0), 0);
        dueInOrder("restore(0), overwritten", x, 3);
        about("Restores what was saved last in a slot, which keeps it.");
        addMark(x, "(0,1)");
        x.play(0);
        for (int times = 0; times < 3; times++) {
            due("restore(0)", x.restore(0), 0);
            dueInOrder("restore(0)", x, 3);
            x.cut(1);
        }
    }

    private static void restoreIsAChange() {
        about("Restores what was saved last in a slot, which keeps it. This is a change.");
        CutMarks x = deckOf(16, "(0,15)");
        x.save(0);
        x.save(1);
        x.set(2);
        x.cut(1);
        int before = x.count(6);
        due("restore(0)", x.restore(0), 1);
        due("count(6)", x.count(6), before + 1);
        due("undo()", x.undo(), before);
        dueDeck("undo() of restore(0)", x, 1, 0);
        for (int times = 0; times < 8; times++) {
            x.restore(times % 2);
        }
        due("count(6), full", x.count(6), 6);
        due("undo()", x.undo(), 5);
        due("count(0)", x.count(0), 16);
    }

    // ---- all of them

    private static void conventionsAndDeck() {
        anObjectAnswersItsLastCall();
        objectsAreApart();
        theConstantsAreAsTold();
        theFirstErrorThatAppliesIsReturned();
        noneIsNoError();
        everythingIsNumberedFrom0();
        setsAreBitMasks();
        theDeckHasSizeCardsAndPlaces();
        cardsAreInTheirPlacesWheneverSizeChanges();
        theOneSettingIsSize();
    }

    private static void marksAndTricks() {
        noTwoPlacesGoToTheSameOne();
        upTo6Marks();
        marksAreNumberedAsTheyCame();
        allMarksAreGoneWhenSizeChanges();
        theProductDoesTheFirstOneFirst();
        marksCommuteIfBothProductsAreTheSame();
        thePower0MovesNothing();
        thePowerBelow0IsThatOfTheInverse();
        aFixedPlaceIsACycle();
        theOrderIsAbove0();
        theSignIs1IfSizeLessCyclesIsEven();
        theCutWrapsAround();
        whatAMarkBecomesWrapsAround();
        theRiffleLaysTheHalves();
        theInnerRiffleLaysTheHalves();
        halvesAreRoundedDown();
        turningBringsTheLastPlaceOnTop();
        theTrickBeginsEmpty();
        theTrickIsLongerThanTheHistory();
    }

    private static void texts() {
        thePadHas80Characters();
        eIsAllThereIs();
        aTextHasOneCycleOrMore();
        aCycleHasTwoPlacesOrMore();
        theLastPlaceGoesToTheFirst();
        aPlaceIs0ToSizeLess1();
        theFaultIsTheFirstCharacterThatCannotStand();
        aDigitNeedsAPlaceThatBeginsSo();
        signsBehindDigitsNeedAPlace();
        openingsAndCommasStandWithoutAPlace();
        aTextThatEndsTooEarlyHasItsLengthAsFault();
        putTakes1To8Characters();
        putTakesCodes33To126();
        nothingStandsAbove8BitsThatAre0();
        theLowest8BitsAreTheLastCharacter();
        wipeReturnsTheLength();
        faultIsNoneIfThereIsNone();
    }

    private static void changesOfAllKinds() {
        aNewObjectHasNothingElse();
        setLaysAllAnew();
        markEmptiesThePad();
        markIsRefusedOnlyForAFaultOrSix();
        productTakesMarksThatAreThere();
        powerTakesUpTo999();
        dropAndPlayTakeMarksThatAreThere();
        cutTakes0ToSizeLess1();
        riffleTakes0Or1();
        restartCountsThePlaces();
        eachChangeRecordsOneState();
        otherCallsRecordNothing();
        theHistoryHas6States();
        theHistoryGoesOnAfterUndo();
        undoLeavesPadAndSlots();
        undoBringsBackSizeDeckTrickAndMarks();
        thereAreTwoSlots();
        nothingWasSavedAtFirst();
        aSlotIsOverwrittenAndKept();
        restoreIsAChange();
    }

    private static void looks() {
        ofTakesTheTrickToo();
        theTrickIsNoMarkElsewhere();
        ofTakesWhatUpTo6();
        theInverseIsTheLowestMark();
        theCutsThatCommuteHave0();
        imageTakesPlaces();
        asManyCommuteAsTheCyclesTell();
        countTakesWhatUpTo6();
        theDeckIsInOrderOnlyIfAllCardsAre();
        theSpreadIsTheSumByTheSize();
        theShareIsFrom0To1();
        becomesFindsTheLowestMark();
        ordersInIsTheLeast();
        noMoreThan5Steps();
        theDeckInOrderHasNoFirstStep();
        theFirstStepIsTheLowestOne();
    }

    public static void main(String[] args) {
        conventionsAndDeck();
        marksAndTricks();
        texts();
        changesOfAllKinds();
        looks();
        System.out.println(wrong == 0 ? tests + " sentences hold" : wrong + " answers are not as due");
        if (wrong != 0) {
            System.exit(1);
        }
    }
}
