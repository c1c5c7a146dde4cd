// Promise by promise: ordinary calls, the edges that the document names, and wrong arguments.
public final class PromisesTest {
    private static final int NO_SUCH = -1, BAD_VALUE = -2, BAD_TEXT = -3, TOO_MANY = -4, NOT_POSSIBLE = -5, NONE = -6;
    private static int wrong = 0;

    private static void due(int promise, String call, long got, long want) {
        if (got != want) {
            wrong++;
            System.out.println("promise " + promise + ": " + call + " answered " + got + ", due is " + want);
        }
    }

    private static long packed(String text) {
        long characters = 0;
        for (int i = 0; i < text.length(); i++) {
            characters = characters << 8 | text.charAt(i);
        }
        return characters;
    }

    private static void putText(CutMarks x, String text) {
        for (int i = 0; i < text.length(); i += 8) {
            x.put(packed(text.substring(i, Math.min(i + 8, text.length()))));
        }
    }

    private static int addMark(CutMarks x, String text) {
        putText(x, text);
        return x.mark();
    }

    private static CutMarks withMarks(int size, String... texts) {
        CutMarks x = new CutMarks();
        if (size != 8) {
            x.set(size);
        }
        for (String text : texts) {
            addMark(x, text);
        }
        return x;
    }

    private static CutMarks withSixMarks() {
        return withMarks(8, "(0,1,2)", "(1,2)", "(0,1)", "e", "e", "e");
    }

    private static void dueDeck(int promise, String after, CutMarks x, int... cards) {
        due(promise, "count(0) after " + after, x.count(0), cards.length);
        for (int place = 0; place < cards.length; place++) {
            due(promise, "at(" + place + ") after " + after, x.at(place), cards[place]);
            due(promise, "where(" + cards[place] + ") after " + after, x.where(cards[place]), place);
        }
    }

    private static void dueMark(int promise, String name, CutMarks x, int mark, int... targets) {
        for (int place = 0; place < targets.length; place++) {
            due(promise, name + ": image(" + mark + ", 1, " + place + ")", x.image(mark, 1, place), targets[place]);
        }
    }

    private static void promise1NewObject() {
        CutMarks x = new CutMarks();
        dueDeck(1, "new", x, 0, 1, 2, 3, 4, 5, 6, 7);
        int[] counts = {8, 0, 255, 1, 0, 0, 0};
        for (int what = 0; what < counts.length; what++) {
            due(1, "count(" + what + ")", x.count(what), counts[what]);
        }
        dueMark(1, "new trick", x, NONE, 0, 1, 2, 3, 4, 5, 6, 7);
        due(1, "fault()", x.fault(), 0);
        due(1, "undo()", x.undo(), NOT_POSSIBLE);
        due(1, "restore(0)", x.restore(0), NOT_POSSIBLE);
        due(1, "restore(1)", x.restore(1), NOT_POSSIBLE);
    }

    private static void promise2Set() {
        CutMarks x = withMarks(8, "(0,1)");
        x.cut(3);
        putText(x, "(1,2)");
        for (int value : new int[] {1, 17, 0, -1, Integer.MIN_VALUE, Integer.MAX_VALUE}) {
            due(2, "set(" + value + ")", x.set(value), BAD_VALUE);
        }
        due(2, "count(6) after errors", x.count(6), 2);
        due(2, "set(8), the same size", x.set(8), 8);
        dueDeck(2, "set(8)", x, 0, 1, 2, 3, 4, 5, 6, 7);
        due(2, "marks", x.count(1), 0);
        due(2, "trick", x.count(4), 0);
        due(2, "pad", x.count(5), 5);
        due(2, "count(6)", x.count(6), 3);
        due(2, "undo()", x.undo(), 2);
        due(2, "marks after undo", x.count(1), 1);
        due(2, "top after undo", x.at(0), 3);
        due(2, "trick after undo", x.count(4), 8);
        due(2, "set(2)", x.set(2), 8);
        dueDeck(2, "set(2)", x, 0, 1);
        due(2, "set(16)", x.set(16), 2);
        dueDeck(2, "set(16)", x, 0, 1, 2, 3, 4, 5, 6, 7, 8, 9, 10, 11, 12, 13, 14, 15);
        due(2, "set(3)", x.set(3), 16);
        due(2, "undo()", x.undo(), 4);
        due(2, "count(0) after undo", x.count(0), 16);
    }

    private static void promise3Mark() {
        CutMarks x = new CutMarks();
        due(3, "mark(), empty pad", x.mark(), BAD_TEXT);
        due(3, "mark() (0,2,1)(4,7)", addMark(x, "(0,2,1)(4,7)"), 0);
        dueMark(3, "(0,2,1)(4,7)", x, 0, 2, 0, 1, 3, 7, 5, 6, 4);
        due(3, "the pad is emptied", x.count(5), 0);
        due(3, "it is a change", x.count(6), 1);
        due(3, "mark() e", addMark(x, "e"), 1);
        dueMark(3, "e", x, 1, 0, 1, 2, 3, 4, 5, 6, 7);
        due(3, "mark() (8,1)", addMark(x, "(8,1)"), BAD_TEXT);
        due(3, "an error keeps the pad", x.wipe(), 5);
        for (int number = 2; number < 6; number++) {
            due(3, "mark() (0,1)", addMark(x, "(0,1)"), number);
        }
        due(3, "six changes", x.count(6), 6);
        due(3, "the seventh mark", addMark(x, "(0,1)"), TOO_MANY);
        due(3, "it keeps the pad", x.count(5), 5);
        putText(x, "e");
        due(3, "BAD_TEXT is ahead of TOO_MANY", x.mark(), BAD_TEXT);
        due(3, "marks", x.count(1), 6);
        x.wipe();
        putText(x, "(3,4)");
        x.undo();
        due(3, "undo keeps the pad", x.count(5), 5);
        due(3, "so it comes again", x.mark(), 5);
        dueMark(3, "(3,4)", x, 5, 0, 1, 2, 4, 3, 5, 6, 7);
        CutMarks y = withMarks(16, "(10,15,0)(1,11)");
        dueMark(3, "two digits", y, 0, 10, 11, 2, 3, 4, 5, 6, 7, 8, 9, 15, 1, 12, 13, 14, 0);
    }

    private static void promise4Product() {
        CutMarks x = withMarks(8, "(0,1)", "(1,2)");
        due(4, "product(0, 1)", x.product(0, 1), 2);
        dueMark(4, "product(0, 1)", x, 2, 2, 0, 1, 3, 4, 5, 6, 7);
        due(4, "product(1, 0)", x.product(1, 0), 3);
        dueMark(4, "product(1, 0)", x, 3, 1, 2, 0, 3, 4, 5, 6, 7);
        due(4, "product(0, 0)", x.product(0, 0), 4);
        dueMark(4, "product(0, 0)", x, 4, 0, 1, 2, 3, 4, 5, 6, 7);
        due(4, "product(5, 0)", x.product(5, 0), NO_SUCH);
        due(4, "product(0, 5)", x.product(0, 5), NO_SUCH);
        due(4, "product(-1, 0)", x.product(-1, 0), NO_SUCH);
        due(4, "product(0, NONE)", x.product(0, NONE), NO_SUCH);
        due(4, "product(NONE, 0)", x.product(NONE, 0), NO_SUCH);
        due(4, "count(6)", x.count(6), 5);
        due(4, "product(2, 3)", x.product(2, 3), 5);
        due(4, "product(0, 1), full", x.product(0, 1), TOO_MANY);
        due(4, "NO_SUCH is ahead of TOO_MANY", x.product(0, 6), NO_SUCH);
        due(4, "undo()", x.undo(), 5);
        due(4, "marks", x.count(1), 5);
    }

    private static void promise5Power() {
        CutMarks x = withMarks(8, "(0,1,2)(4,5)");
        due(5, "power(0, 2)", x.power(0, 2), 1);
        dueMark(5, "power 2", x, 1, 2, 0, 1, 3, 4, 5, 6, 7);
        due(5, "power(0, -1)", x.power(0, -1), 2);
        dueMark(5, "power -1", x, 2, 2, 0, 1, 3, 5, 4, 6, 7);
        due(5, "power(0, 0)", x.power(0, 0), 3);
        dueMark(5, "power 0", x, 3, 0, 1, 2, 3, 4, 5, 6, 7);
        due(5, "power(0, 999)", x.power(0, 999), 4);
        dueMark(5, "power 999", x, 4, 0, 1, 2, 3, 5, 4, 6, 7);
        due(5, "power(0, 1000)", x.power(0, 1000), BAD_VALUE);
        due(5, "power(0, -1000)", x.power(0, -1000), BAD_VALUE);
        due(5, "power(0, MIN)", x.power(0, Integer.MIN_VALUE), BAD_VALUE);
        due(5, "power(5, 0)", x.power(5, 0), NO_SUCH);
        due(5, "power(NONE, 1)", x.power(NONE, 1), NO_SUCH);
        due(5, "NO_SUCH is ahead of BAD_VALUE", x.power(-1, 1000), NO_SUCH);
        due(5, "count(6)", x.count(6), 5);
        due(5, "power(0, -998)", x.power(0, -998), 5);
        dueMark(5, "power -998", x, 5, 1, 2, 0, 3, 4, 5, 6, 7);
        due(5, "power(0, 1), full", x.power(0, 1), TOO_MANY);
        due(5, "BAD_VALUE is ahead of TOO_MANY", x.power(0, 1000), BAD_VALUE);
        due(5, "power(6, 1), full", x.power(6, 1), NO_SUCH);
        x.undo();
        due(5, "power(0, -999)", x.power(0, -999), 5);
        dueMark(5, "power -999", x, 5, 0, 1, 2, 3, 5, 4, 6, 7);
    }

    private static void promise6Trick() {
        CutMarks x = withMarks(8, "(0,5)");
        due(6, "trick(), empty", x.trick(), 1);
        dueMark(6, "empty trick", x, 1, 0, 1, 2, 3, 4, 5, 6, 7);
        x.cut(3);
        x.play(0);
        due(6, "trick()", x.trick(), 2);
        dueMark(6, "cut by 3, (0,5)", x, 2, 0, 6, 7, 5, 1, 2, 3, 4);
        due(6, "a change each", x.count(6), 5);
        x.restart();
        due(6, "trick() after restart", x.trick(), 3);
        dueMark(6, "after restart", x, 3, 0, 1, 2, 3, 4, 5, 6, 7);
        due(6, "trick()", x.trick(), 4);
        due(6, "trick()", x.trick(), 5);
        due(6, "trick(), full", x.trick(), TOO_MANY);
        due(6, "marks", x.count(1), 6);
        due(6, "undo()", x.undo(), 5);
        due(6, "marks after undo", x.count(1), 5);
    }

    private static void promise7Drop() {
        CutMarks x = withMarks(8, "(0,1)", "(0,2)", "(0,3)", "(0,4)", "(0,5)", "(0,6)");
        due(7, "drop(6)", x.drop(6), NO_SUCH);
        due(7, "drop(-1)", x.drop(-1), NO_SUCH);
        due(7, "drop(NONE)", x.drop(NONE), NO_SUCH);
        due(7, "drop(1)", x.drop(1), 5);
        int[] targets = {1, 3, 4, 5, 6};
        for (int mark = 0; mark < targets.length; mark++) {
            due(7, "image(" + mark + ", 1, 0)", x.image(mark, 1, 0), targets[mark]);
        }
        due(7, "drop(5), gone", x.drop(5), NO_SUCH);
        due(7, "drop(4)", x.drop(4), 4);
        due(7, "drop(0)", x.drop(0), 3);
        due(7, "image(0, 1, 0)", x.image(0, 1, 0), 3);
        due(7, "image(2, 1, 0)", x.image(2, 1, 0), 5);
        due(7, "image(3, 1, 0)", x.image(3, 1, 0), NO_SUCH);
        due(7, "undo()", x.undo(), 5);
        due(7, "image(0, 1, 0) after undo", x.image(0, 1, 0), 1);
        due(7, "marks", x.count(1), 4);
        due(7, "a new one is the last", addMark(x, "(0,7)"), 4);
    }

    private static void promise8Play() {
        CutMarks x = withMarks(8, "(0,1,2)", "e");
        due(8, "play(0)", x.play(0), 2);
        dueDeck(8, "play(0)", x, 2, 0, 1, 3, 4, 5, 6, 7);
        due(8, "play(0)", x.play(0), 1);
        dueDeck(8, "play(0) again", x, 1, 2, 0, 3, 4, 5, 6, 7);
        due(8, "trick", x.image(NONE, 1, 0), 2);
        due(8, "play(1)", x.play(1), 1);
        due(8, "it is a change", x.count(6), 5);
        due(8, "play(2)", x.play(2), NO_SUCH);
        due(8, "play(-1)", x.play(-1), NO_SUCH);
        due(8, "play(NONE)", x.play(NONE), NO_SUCH);
        due(8, "no change", x.count(6), 5);
        x.undo();
        x.undo();
        dueDeck(8, "undo()", x, 2, 0, 1, 3, 4, 5, 6, 7);
    }

    private static void promise9Cut() {
        CutMarks x = new CutMarks();
        due(9, "cut(3)", x.cut(3), 3);
        dueDeck(9, "cut(3)", x, 3, 4, 5, 6, 7, 0, 1, 2);
        dueMark(9, "trick", x, NONE, 5, 6, 7, 0, 1, 2, 3, 4);
        due(9, "cut(0)", x.cut(0), 3);
        due(9, "cut(0) is a change", x.count(6), 2);
        due(9, "cut(8)", x.cut(8), BAD_VALUE);
        due(9, "cut(-1)", x.cut(-1), BAD_VALUE);
        due(9, "cut(MAX)", x.cut(Integer.MAX_VALUE), BAD_VALUE);
        due(9, "no change", x.count(6), 2);
        due(9, "cut(7)", x.cut(7), 2);
        dueDeck(9, "cut(7)", x, 2, 3, 4, 5, 6, 7, 0, 1);
        x.set(2);
        due(9, "cut(2), 2 cards", x.cut(2), BAD_VALUE);
        due(9, "cut(1), 2 cards", x.cut(1), 1);
        x.set(16);
        due(9, "cut(15), 16 cards", x.cut(15), 15);
        due(9, "at(1)", x.at(1), 0);
    }

    private static void promise10Riffle() {
        CutMarks x = new CutMarks();
        due(10, "riffle(0)", x.riffle(0), 0);
        dueDeck(10, "riffle(0)", x, 0, 4, 1, 5, 2, 6, 3, 7);
        x.undo();
        due(10, "riffle(1)", x.riffle(1), 4);
        dueDeck(10, "riffle(1)", x, 4, 0, 5, 1, 6, 2, 7, 3);
        due(10, "riffle(2)", x.riffle(2), BAD_VALUE);
        due(10, "riffle(-1)", x.riffle(-1), BAD_VALUE);
        due(10, "one change", x.count(6), 1);
        due(10, "riffle(0)", x.riffle(0), 4);
        dueDeck(10, "riffle(1), riffle(0)", x, 4, 6, 0, 2, 5, 7, 1, 3);
        x.set(7);
        due(10, "riffle(0), 7 cards", x.riffle(0), 0);
        dueDeck(10, "riffle(0)", x, 0, 4, 1, 5, 2, 6, 3);
        x.set(7);
        due(10, "riffle(1), 7 cards", x.riffle(1), 3);
        dueDeck(10, "riffle(1)", x, 3, 0, 4, 1, 5, 2, 6);
        x.set(3);
        due(10, "riffle(1), 3 cards", x.riffle(1), 1);
        dueDeck(10, "riffle(1)", x, 1, 0, 2);
        x.set(3);
        due(10, "riffle(0), 3 cards", x.riffle(0), 0);
        dueDeck(10, "riffle(0)", x, 0, 2, 1);
        x.set(2);
        due(10, "riffle(0), 2 cards", x.riffle(0), 0);
        due(10, "riffle(1), 2 cards", x.riffle(1), 1);
        dueMark(10, "trick", x, NONE, 1, 0);
    }

    private static void promise11Turn() {
        CutMarks x = new CutMarks();
        x.cut(2);
        due(11, "turn()", x.turn(), 1);
        dueDeck(11, "cut(2), turn()", x, 1, 0, 7, 6, 5, 4, 3, 2);
        dueMark(11, "trick", x, NONE, 1, 0, 7, 6, 5, 4, 3, 2);
        due(11, "it is a change", x.count(6), 2);
        due(11, "turn()", x.turn(), 2);
        x.set(3);
        due(11, "turn(), 3 cards", x.turn(), 2);
        dueDeck(11, "turn()", x, 2, 1, 0);
    }

    private static void promise12Restart() {
        CutMarks x = new CutMarks();
        due(12, "restart(), nothing done", x.restart(), 0);
        due(12, "it is a change", x.count(6), 1);
        x.riffle(0);
        due(12, "restart()", x.restart(), 6);
        dueDeck(12, "restart()", x, 0, 4, 1, 5, 2, 6, 3, 7);
        due(12, "count(4)", x.count(4), 0);
        due(12, "restart()", x.restart(), 0);
        x.cut(1);
        dueMark(12, "the new trick", x, NONE, 7, 0, 1, 2, 3, 4, 5, 6);
        due(12, "restart()", x.restart(), 8);
        x.undo();
        due(12, "count(4) after undo", x.count(4), 8);
    }

    private static void promise13And14AtAndWhere() {
        CutMarks x = new CutMarks();
        x.riffle(1);
        dueDeck(13, "riffle(1)", x, 4, 0, 5, 1, 6, 2, 7, 3);
        for (int wrongOne : new int[] {8, -1, NONE, 16, Integer.MIN_VALUE, Integer.MAX_VALUE}) {
            due(13, "at(" + wrongOne + ")", x.at(wrongOne), NO_SUCH);
            due(14, "where(" + wrongOne + ")", x.where(wrongOne), NO_SUCH);
        }
        x.set(16);
        due(13, "at(15)", x.at(15), 15);
        due(14, "where(15)", x.where(15), 15);
        due(13, "at(16)", x.at(16), NO_SUCH);
        due(14, "where(16)", x.where(16), NO_SUCH);
        x.cut(3);
        due(13, "at(15) after cut(3)", x.at(15), 2);
        due(14, "where(15) after cut(3)", x.where(15), 12);
        x.set(2);
        due(13, "at(2)", x.at(2), NO_SUCH);
        due(14, "where(2)", x.where(2), NO_SUCH);
    }

    private static void dueOf(CutMarks x, String name, int mark, int... answers) {
        for (int what = 0; what < answers.length; what++) {
            due(15, name + ": of(" + mark + ", " + what + ")", x.of(mark, what), answers[what]);
        }
    }

    private static void promise15Of() {
        CutMarks x = withMarks(8, "(0,1,2)(3,4)", "e", "(0,4)(1,5)(2,6)(3,7)", "(0,2,1)(3,4)", "(0,2,1)(3,4)");
        dueOf(x, "(0,1,2)(3,4)", 0, 6, 5, 0xE0, 3, 0, 1, 3);
        dueOf(x, "e", 1, 1, 8, 0xFF, 1, 2, 0xFF, 1);
        dueOf(x, "cut by 4", 2, 2, 4, 0, 2, 2, 0xFF, 2);
        dueOf(x, "(0,2,1)(3,4)", 3, 6, 5, 0xE0, 3, 0, 1, 0);
        dueOf(x, "the empty trick", NONE, 1, 8, 0xFF, 1, 2, 0xFF, 1);
        x.cut(1);
        dueOf(x, "the trick, cut by 1", NONE, 8, 1, 0, 8, 0, 0xFF, NONE);
        for (int mark : new int[] {5, -1, -2, -5, -7, 6, Integer.MAX_VALUE}) {
            due(15, "of(" + mark + ", 0)", x.of(mark, 0), NO_SUCH);
            due(15, "of(" + mark + ", 7)", x.of(mark, 7), NO_SUCH);
        }
        for (int what : new int[] {7, -1, NONE, Integer.MIN_VALUE}) {
            due(15, "of(0, " + what + ")", x.of(0, what), BAD_VALUE);
            due(15, "of(NONE, " + what + ")", x.of(NONE, what), BAD_VALUE);
        }
        due(15, "nothing changes", x.count(6), 6);
        CutMarks y = withMarks(8, "(0,4)", "(0,1)(4,5)");
        dueOf(y, "(0,4)", 0, 2, 7, 0xEE, 2, 0, 0x11, 0);
        dueOf(y, "(0,1)(4,5)", 1, 2, 6, 0xCC, 2, 2, 0x11, 1);
        CutMarks z = withMarks(16, "(0,1,2,3)(4,5,6,7,8)(9,10,11,12,13,14,15)");
        dueOf(z, "the greatest order", 0, 140, 3, 0, 7, 0, 1, NONE);
        CutMarks two = withMarks(2, "(0,1)");
        dueOf(two, "2 cards", 0, 2, 1, 0, 2, 0, 3, 0);
    }

    private static void promise16Image() {
        CutMarks x = withMarks(8, "(0,1,2)(3,4)");
        due(16, "image(0, 1, 0)", x.image(0, 1, 0), 1);
        due(16, "image(0, 2, 0)", x.image(0, 2, 0), 2);
        due(16, "image(0, -1, 0)", x.image(0, -1, 0), 2);
        due(16, "image(0, 0, 3)", x.image(0, 0, 3), 3);
        due(16, "image(0, 999, 3)", x.image(0, 999, 3), 4);
        due(16, "image(0, -999, 0)", x.image(0, -999, 0), 0);
        due(16, "image(0, -998, 0)", x.image(0, -998, 0), 1);
        due(16, "image(0, 500, 7)", x.image(0, 500, 7), 7);
        due(16, "image(0, 1000, 0)", x.image(0, 1000, 0), BAD_VALUE);
        due(16, "image(0, -1000, 0)", x.image(0, -1000, 0), BAD_VALUE);
        due(16, "image(NONE, -1000, 0)", x.image(NONE, -1000, 0), BAD_VALUE);
        due(16, "image(0, 1, 8)", x.image(0, 1, 8), NO_SUCH);
        due(16, "image(0, 1000, -1)", x.image(0, 1000, -1), NO_SUCH);
        due(16, "image(1, 1000, 0)", x.image(1, 1000, 0), NO_SUCH);
        due(16, "image(-1, 0, 0)", x.image(-1, 0, 0), NO_SUCH);
        due(16, "image(NONE, 0, 8)", x.image(NONE, 0, 8), NO_SUCH);
        x.cut(3);
        due(16, "image(NONE, 2, 7)", x.image(NONE, 2, 7), 1);
        due(16, "image(NONE, -1, 7)", x.image(NONE, -1, 7), 2);
        due(16, "nothing changes", x.count(6), 2);
    }

    private static void promise17Commuting() {
        CutMarks x = withMarks(8, "(0,1)(2,3)", "(0,1,2)(3,4,5)(6,7)", "(0,1,2,3,4,5,6,7)", "e");
        due(17, "commuting(0)", x.commuting(0), 192);
        due(17, "commuting(1)", x.commuting(1), 36);
        due(17, "commuting(2)", x.commuting(2), 8);
        due(17, "commuting(3)", x.commuting(3), 40320);
        due(17, "commuting(NONE)", x.commuting(NONE), 40320);
        x.turn();
        due(17, "commuting(NONE) after turn()", x.commuting(NONE), 384);
        due(17, "commuting(4)", x.commuting(4), NO_SUCH);
        due(17, "commuting(-1)", x.commuting(-1), NO_SUCH);
        CutMarks y = withMarks(16, "e");
        due(17, "commuting(0), e of 16", y.commuting(0), 20922789888000L);
        CutMarks z = withMarks(2, "e", "(0,1)");
        due(17, "commuting(0), e of 2", z.commuting(0), 2);
        due(17, "commuting(1), (0,1) of 2", z.commuting(1), 2);
    }

    private static void promise18Commute() {
        CutMarks x = withMarks(8, "(0,1)", "(1,2)", "(2,3)");
        due(18, "commute(0, 1)", x.commute(0, 1), 0);
        due(18, "commute(0, 2)", x.commute(0, 2), 1);
        due(18, "commute(2, 0)", x.commute(2, 0), 1);
        due(18, "commute(1, 1)", x.commute(1, 1), 1);
        due(18, "commute(NONE, 1)", x.commute(NONE, 1), 1);
        x.cut(1);
        due(18, "commute(NONE, 1) after cut(1)", x.commute(NONE, 1), 0);
        due(18, "commute(1, NONE)", x.commute(1, NONE), 0);
        due(18, "commute(NONE, NONE)", x.commute(NONE, NONE), 1);
        due(18, "commute(3, 0)", x.commute(3, 0), NO_SUCH);
        due(18, "commute(0, 3)", x.commute(0, 3), NO_SUCH);
        due(18, "commute(0, -1)", x.commute(0, -1), NO_SUCH);
        due(18, "commute(-5, NONE)", x.commute(-5, NONE), NO_SUCH);
    }

    private static void promise19Count() {
        CutMarks x = withMarks(9, "(0,1)(3,5)", "e");
        putText(x, "abcdefghij");
        x.play(0);
        int[] counts = {9, 2, 0x1D4, 0, 4, 10, 4};
        for (int what = 0; what < counts.length; what++) {
            due(19, "count(" + what + ")", x.count(what), counts[what]);
        }
        x.restart();
        due(19, "count(4) after restart()", x.count(4), 0);
        x.play(0);
        due(19, "count(2)", x.count(2), 0x1FF);
        due(19, "count(3)", x.count(3), 1);
        due(19, "count(4)", x.count(4), 4);
        due(19, "count(6)", x.count(6), 6);
        x.cut(1);
        due(19, "count(6) stays", x.count(6), 6);
        x.undo();
        due(19, "count(6) after undo()", x.count(6), 5);
        for (int what : new int[] {7, -1, NONE, Integer.MAX_VALUE, Integer.MIN_VALUE}) {
            due(19, "count(" + what + ")", x.count(what), BAD_VALUE);
        }
    }

    private static void promise20Spread() {
        CutMarks x = new CutMarks();
        due(20, "spread(), in order", x.spread(), Double.doubleToLongBits(0.0));
        x.cut(3);
        due(20, "spread() after cut(3)", x.spread(), Double.doubleToLongBits(3.75));
        x.set(3);
        x.turn();
        due(20, "spread(), 3 cards turned", x.spread(), Double.doubleToLongBits(4.0 / 3.0));
        x.set(16);
        x.turn();
        due(20, "spread(), 16 cards turned", x.spread(), Double.doubleToLongBits(8.0));
        x.restart();
        due(20, "spread() after restart()", x.spread(), Double.doubleToLongBits(8.0));
        CutMarks y = withMarks(13, "(4,5)");
        y.play(0);
        due(20, "spread(), two of 13 cards", y.spread(), Double.doubleToLongBits(2.0 / 13.0));
    }

    private static void promise21Share() {
        CutMarks x = new CutMarks();
        due(21, "share(), in order", x.share(), Float.floatToIntBits(1.0f));
        x.cut(1);
        due(21, "share() after cut(1)", x.share(), Float.floatToIntBits(0.0f));
        for (int size = 2; size <= 16; size++) {
            CutMarks y = withMarks(size, "(0,1)");
            y.play(0);
            float want = (float) (size - 2) / (float) size;
            due(21, "share(), " + size + " cards", y.share(), Float.floatToIntBits(want));
        }
        CutMarks z = new CutMarks();
        z.set(3);
        z.turn();
        due(21, "share(), 3 cards turned", z.share(), Float.floatToIntBits(1.0f / 3.0f));
    }

    private static void promise22ByCut() {
        CutMarks x = withMarks(8, "(0,1,4)");
        int[] targets = {0, 5, 2, 3, 4, 6, 1, 7};
        for (int place = 0; place < targets.length; place++) {
            due(22, "byCut(0, 3, " + place + ")", x.byCut(0, 3, place), targets[place]);
        }
        due(22, "byCut(0, 0, 0)", x.byCut(0, 0, 0), 1);
        due(22, "byCut(0, 7, 1)", x.byCut(0, 7, 1), 2);
        due(22, "byCut(1, 0, 0)", x.byCut(1, 0, 0), NO_SUCH);
        due(22, "byCut(NONE, 0, 0)", x.byCut(NONE, 0, 0), NO_SUCH);
        due(22, "byCut(0, 0, 8)", x.byCut(0, 0, 8), NO_SUCH);
        due(22, "byCut(0, 8, -1)", x.byCut(0, 8, -1), NO_SUCH);
        due(22, "byCut(1, 8, 0)", x.byCut(1, 8, 0), NO_SUCH);
        due(22, "byCut(0, 8, 0)", x.byCut(0, 8, 0), BAD_VALUE);
        due(22, "byCut(0, -1, 0)", x.byCut(0, -1, 0), BAD_VALUE);
        due(22, "nothing changes", x.count(6), 1);
    }

    private static void promise23Becomes() {
        CutMarks x = withMarks(8, "(0,1)", "(5,6)", "(5,6)", "(0,4)(1,5)(2,6)(3,7)");
        due(23, "becomes(0, 3)", x.becomes(0, 3), 1);
        due(23, "becomes(1, 5)", x.becomes(1, 5), 0);
        due(23, "becomes(2, 0)", x.becomes(2, 0), 1);
        due(23, "becomes(0, 1)", x.becomes(0, 1), NONE);
        due(23, "becomes(3, 5)", x.becomes(3, 5), 3);
        due(23, "becomes(0, 8)", x.becomes(0, 8), BAD_VALUE);
        due(23, "becomes(0, -1)", x.becomes(0, -1), BAD_VALUE);
        due(23, "becomes(4, 8)", x.becomes(4, 8), NO_SUCH);
        due(23, "becomes(NONE, 0)", x.becomes(NONE, 0), NO_SUCH);
        x.drop(1);
        due(23, "becomes(0, 3) after drop(1)", x.becomes(0, 3), 1);
        x.drop(1);
        due(23, "becomes(0, 3) after drop(1) again", x.becomes(0, 3), NONE);
        addMark(x, "(5,6)");
        due(23, "becomes(0, 3), the last mark", x.becomes(0, 3), 2);
        x.drop(2);
        due(23, "becomes(0, 3), the last mark gone", x.becomes(0, 3), NONE);
    }

    private static void promise24OrdersIn() {
        CutMarks x = withMarks(8, "(0,1,2)", "(3,4)", "e");
        due(24, "ordersIn(0), in order", x.ordersIn(0), 0);
        x.play(0);
        due(24, "ordersIn(0)", x.ordersIn(0), 2);
        due(24, "ordersIn(1)", x.ordersIn(1), NONE);
        due(24, "ordersIn(2)", x.ordersIn(2), NONE);
        x.play(0);
        due(24, "ordersIn(0)", x.ordersIn(0), 1);
        x.restart();
        due(24, "ordersIn(0) after restart()", x.ordersIn(0), 1);
        due(24, "ordersIn(3)", x.ordersIn(3), NO_SUCH);
        due(24, "ordersIn(-1)", x.ordersIn(-1), NO_SUCH);
        due(24, "ordersIn(NONE)", x.ordersIn(NONE), NO_SUCH);
        CutMarks y = withMarks(16, "(0,1,2,3)(4,5,6,7,8)(9,10,11,12,13,14,15)");
        y.play(0);
        due(24, "ordersIn(0), the greatest one", y.ordersIn(0), 139);
    }

    private static void promises25And26Steps() {
        CutMarks x = new CutMarks();
        due(25, "fewestSteps(), in order", x.fewestSteps(), 0);
        due(26, "firstStep(), in order", x.firstStep(), NONE);
        x.cut(7);
        due(25, "fewestSteps() after cut(7)", x.fewestSteps(), 1);
        due(26, "firstStep() after cut(7)", x.firstStep(), 0);
        x.undo();
        x.turn();
        due(25, "fewestSteps() after turn()", x.fewestSteps(), 1);
        due(26, "firstStep() after turn()", x.firstStep(), 3);
        x.undo();
        x.riffle(0);
        due(25, "fewestSteps() after riffle(0)", x.fewestSteps(), 2);
        due(26, "firstStep() after riffle(0)", x.firstStep(), 1);
        x.riffle(0);
        due(25, "fewestSteps() after riffle(0) twice", x.fewestSteps(), 1);
        due(26, "firstStep() after riffle(0) twice", x.firstStep(), 1);
        x.set(16);
        x.cut(11);
        due(25, "fewestSteps(), 16 cards, cut(11)", x.fewestSteps(), 5);
        due(26, "firstStep(), 16 cards, cut(11)", x.firstStep(), 0);
        CutMarks y = withMarks(16, "(0,1)");
        y.play(0);
        due(25, "fewestSteps(), (0,1) of 16", y.fewestSteps(), NONE);
        due(26, "firstStep(), (0,1) of 16", y.firstStep(), NONE);
        due(25, "nothing changes", y.at(0), 1);
        CutMarks z = new CutMarks();
        z.set(2);
        z.cut(1);
        due(25, "fewestSteps(), 2 cards", z.fewestSteps(), 1);
        due(26, "firstStep(), the lowest one", z.firstStep(), 0);
        z.set(3);
        z.riffle(1);
        due(26, "firstStep(), inner riffle of 3 cards", z.firstStep(), 2);
    }

    private static void promise27Put() {
        CutMarks x = new CutMarks();
        due(27, "put(e)", x.put('e'), 1);
        due(27, "put(!~)", x.put(packed("!~")), 3);
        due(27, "put of 8", x.put(packed("abcdefgh")), 11);
        long[] bad = {0, -1, ' ', 127, 128, 255, packed("a b"), packed("a") << 8, 0x61_00_61L, 0x61_00_00_00_00_00_00_61L,
            packed("abcdefg") << 8, 0x7F_61_61_61_61_61_61_61L, 0x80_61_61_61_61_61_61_61L, 0x20_61_61_61_61_61_61_61L,
            Long.MIN_VALUE, Long.MIN_VALUE | 'a', 1L << 16 | 'a', 1L << 9 | 'a'};
        for (long characters : bad) {
            due(27, "put(" + characters + ")", x.put(characters), BAD_VALUE);
        }
        due(27, "errors leave the pad", x.count(5), 11);
        due(27, "it is no change", x.count(6), 0);
        for (int length = 19; length <= 75; length += 8) {
            due(27, "put of 8", x.put(packed("abcdefgh")), length);
        }
        due(27, "put of 6, too many", x.put(packed("abcdef")), TOO_MANY);
        due(27, "put of 5", x.put(packed("abcde")), 80);
        due(27, "put of 1, too many", x.put('e'), TOO_MANY);
        due(27, "BAD_VALUE is ahead of TOO_MANY", x.put(' '), BAD_VALUE);
        due(27, "the length", x.count(5), 80);
        CutMarks y = new CutMarks();
        y.put(packed("(0,1,2)"));
        y.mark();
        dueMark(27, "the characters are in their order", y, 0, 1, 2, 0, 3, 4, 5, 6, 7);
    }

    private static void promise28Wipe() {
        CutMarks x = new CutMarks();
        due(28, "wipe(), empty", x.wipe(), 0);
        putText(x, "(0,1)(2,3)");
        due(28, "wipe()", x.wipe(), 10);
        due(28, "count(5)", x.count(5), 0);
        due(28, "it is no change", x.count(6), 0);
        due(28, "put(e)", x.put('e'), 1);
        due(28, "fault()", x.fault(), NONE);
    }

    private static void dueFault(int size, String text, int want) {
        CutMarks x = new CutMarks();
        x.set(size);
        putText(x, text);
        due(29, "fault() of \"" + text + "\", " + size + " cards", x.fault(), want);
        due(29, "mark() of \"" + text + "\", " + size + " cards", x.mark(), want == NONE ? 0 : BAD_TEXT);
    }

    private static void promise29Fault() {
        String[] right = {"e", "(0,1)", "(0,1)(2,3)", "(7,6,5,4,3,2,1,0)"};
        for (String text : right) {
            dueFault(8, text, NONE);
        }
        String[] early = {"", "(", "(0", "(0,", "(0,1", "(0,1)(", "(0,1)(2,3,4", "(0,1,2,3,4,5,6,7", "(0,1,2,3,4,5,6,7,",
            "(0,1,2,3,4,5,6,7)("};
        for (String text : early) {
            dueFault(8, text, text.length());
        }
        String[] wrongAtTheEnd = {"E", ")", ",", "0", "ee", "e(", "e0", "()", "(,", "((", "(e", "(0)", "(0(", "(0e", "(00", "(01",
            "(8", "(9", "(12", "(0,,", "(0,)", "(0,(", "(0,0", "(0,1)e", "(0,1),", "(0,1))", "(0,1)2", "(0,1)(2)", "(0,1)(1",
            "(0,1,2,3,4,5,6,7,0", "(0,1,2,3,4,5,6,7)(0", "(0-", "(0,1/", "(0,1:", "(/", "(:"};
        for (String text : wrongAtTheEnd) {
            dueFault(8, text, text.length() - 1);
            dueFault(8, text + "e", text.length() - 1);
        }
        dueFault(16, "(1,10)(11,0)", NONE);
        dueFault(16, "(15,14,13,12,11,10,9,8,7,6,5,4,3,2,1,0)", NONE);
        dueFault(16, "(16", 2);
        dueFault(16, "(1,1", 4);
        dueFault(16, "(1,1,", 4);
        dueFault(16, "(1,1)", 4);
        dueFault(16, "(1,10", 5);
        dueFault(16, "(1,10,10", 7);
        dueFault(16, "(100", 3);
        dueFault(16, "(1,01", 4);
        dueFault(16, "(0,01", 3);
        dueFault(16, "(3,20", 4);
        dueFault(16, "(2,20", 3);
        dueFault(16, "(10,11,12,13,14,15,1", 20);
        dueFault(16, "(10,11,12,13,14,15,1,1", 21);
        dueFault(16, "(10,11,12,13,14,15,1)", NONE);
        dueFault(16, "(10,1,11,12,13,14,1", 19);
        dueFault(16, "(10,1,11,12,13,14,1)", 19);
        dueFault(16, "(10,1,11,12,13,14,15,1", 21);
        dueFault(11, "(1,10)", NONE);
        dueFault(11, "(1,11", 4);
        dueFault(11, "(10,1,1", 6);
        dueFault(10, "(10", 2);
        dueFault(10, "(9,1)", NONE);
        dueFault(2, "(0,1)", NONE);
        dueFault(2, "(0,1,", 5);
        dueFault(2, "(0,1)(", 6);
        dueFault(2, "(0,1)(0", 6);
        dueFault(2, "(2", 1);
        CutMarks x = new CutMarks();
        putText(x, "(0,8)");
        due(29, "fault(), 8 cards", x.fault(), 3);
        x.set(9);
        due(29, "fault(), the same pad for 9 cards", x.fault(), NONE);
        due(29, "nothing changes", x.count(5), 5);
    }

    private static void promise30Undo() {
        CutMarks x = new CutMarks();
        due(30, "undo(), nothing done", x.undo(), NOT_POSSIBLE);
        x.cut(0);
        due(30, "also if nothing is different", x.undo(), 0);
        due(30, "undo()", x.undo(), NOT_POSSIBLE);
        for (int i = 0; i < 9; i++) {
            x.cut(1);
        }
        for (int left = 5; left >= 0; left--) {
            due(30, "undo()", x.undo(), left);
        }
        due(30, "the oldest ones are dropped", x.at(0), 3);
        due(30, "undo()", x.undo(), NOT_POSSIBLE);
        due(30, "at(0) stays", x.at(0), 3);
        x.cut(2);
        x.cut(8);
        x.riffle(5);
        x.set(99);
        x.play(0);
        x.restore(0);
        due(30, "errors record nothing", x.count(6), 1);
        x.put('e');
        x.save(0);
        x.fewestSteps();
        due(30, "nor do calls that are no changes", x.count(6), 1);
        x.mark();
        x.put('(');
        due(30, "undo() of mark()", x.undo(), 1);
        due(30, "the pad stays", x.count(5), 1);
        due(30, "the mark is gone", x.count(1), 0);
        due(30, "undo()", x.undo(), 0);
        due(30, "at(0)", x.at(0), 3);
        due(30, "the slot stays", x.restore(0), 0);
        due(30, "at(0)", x.at(0), 5);
        due(30, "undo() of restore()", x.undo(), 0);
        due(30, "at(0)", x.at(0), 3);
        undoBringsAllBack();
    }

    private static void undoBringsAllBack() {
        CutMarks x = withMarks(5, "(0,1)", "(2,3)");
        x.cut(1);
        x.restart();
        x.turn();
        x.set(16);
        x.undo();
        dueDeck(30, "undo() of set(16)", x, 0, 4, 3, 2, 1);
        due(30, "marks", x.count(1), 2);
        due(30, "image(1, 1, 2)", x.image(1, 1, 2), 3);
        dueMark(30, "trick", x, NONE, 4, 3, 2, 1, 0);
        due(30, "undo() of turn()", x.undo(), 4);
        dueDeck(30, "undo() of turn()", x, 1, 2, 3, 4, 0);
        due(30, "count(4)", x.count(4), 0);
        x.undo();
        due(30, "count(4) after undo() of restart()", x.count(4), 5);
    }

    private static void promise31Save() {
        CutMarks x = withMarks(5, "(0,1)", "(2,3)");
        due(31, "save(2)", x.save(2), BAD_VALUE);
        due(31, "save(-1)", x.save(-1), BAD_VALUE);
        due(31, "save(0)", x.save(0), 2);
        due(31, "it is no change", x.count(6), 3);
        due(31, "restore(1), nothing saved", x.restore(1), NOT_POSSIBLE);
        x.cut(1);
        x.drop(0);
        due(31, "save(1)", x.save(1), 1);
        due(31, "restore(0)", x.restore(0), 2);
        due(31, "at(0)", x.at(0), 0);
        x.turn();
        due(31, "save(0) overwrites", x.save(0), 2);
        due(31, "restore(1)", x.restore(1), 1);
        due(31, "at(0)", x.at(0), 1);
        due(31, "restore(0)", x.restore(0), 2);
        due(31, "at(0)", x.at(0), 4);
    }

    private static void promise32Restore() {
        CutMarks x = withMarks(5, "(0,1)", "(2,3)");
        x.cut(1);
        x.restart();
        x.cut(2);
        x.save(1);
        x.set(16);
        putText(x, "(0,15)");
        due(32, "restore(2)", x.restore(2), BAD_VALUE);
        due(32, "restore(-1)", x.restore(-1), BAD_VALUE);
        due(32, "restore(0)", x.restore(0), NOT_POSSIBLE);
        due(32, "errors are no changes", x.count(6), 6);
        x.undo();
        x.undo();
        due(32, "restore(1)", x.restore(1), 2);
        due(32, "it is a change", x.count(6), 5);
        dueDeck(32, "restore(1)", x, 3, 4, 0, 1, 2);
        dueMark(32, "trick", x, NONE, 3, 4, 0, 1, 2);
        dueMark(32, "(2,3)", x, 1, 0, 1, 3, 2, 4);
        due(32, "the pad stays", x.count(5), 6);
        x.play(0);
        x.drop(0);
        due(32, "the slot keeps it: restore(1)", x.restore(1), 2);
        dueDeck(32, "restore(1) again", x, 3, 4, 0, 1, 2);
        due(32, "undo()", x.undo(), 5);
        due(32, "marks", x.count(1), 1);
        dueDeck(32, "undo()", x, 4, 3, 0, 1, 2);
    }

    private static void fullBoardOfMarks() {
        CutMarks x = withSixMarks();
        due(4, "product(1, 2) of six", x.product(1, 2), TOO_MANY);
        due(6, "trick() of six", x.trick(), TOO_MANY);
        due(15, "of(0, 6)", x.of(0, 6), NONE);
        due(15, "of(5, 6), the lowest one", x.of(5, 6), 3);
        due(7, "drop(5)", x.drop(5), 5);
        due(4, "product(1, 2), the same as 0", x.product(1, 2), 5);
        due(15, "of(0, 6)", x.of(0, 6), NONE);
        x.drop(5);
        due(4, "product(2, 1)", x.product(2, 1), 5);
        due(15, "of(0, 6)", x.of(0, 6), 5);
    }

    public static void main(String[] args) {
        promise1NewObject();
        promise2Set();
        promise3Mark();
        promise4Product();
        promise5Power();
        promise6Trick();
        promise7Drop();
        promise8Play();
        promise9Cut();
        promise10Riffle();
        promise11Turn();
        promise12Restart();
        promise13And14AtAndWhere();
        promise15Of();
        promise16Image();
        promise17Commuting();
        promise18Commute();
        promise19Count();
        promise20Spread();
        promise21Share();
        promise22ByCut();
        promise23Becomes();
        promise24OrdersIn();
        promises25And26Steps();
        promise27Put();
        promise28Wipe();
        promise29Fault();
        promise30Undo();
        promise31Save();
        promise32Restore();
        fullBoardOfMarks();
        System.out.println(wrong == 0 ? "all answers are as due" : wrong + " answers are not as due");
        if (wrong != 0) {
            System.exit(1);
        }
    }
}
