/** At least one test for each promise: ordinary inputs, the edges that the document names, and wrong inputs. */
public final class PromiseTests {
    private static final int NO_SUCH = -1, BAD_VALUE = -2, BAD_TEXT = -3, TOO_MANY = -4, NOT_POSSIBLE = -5, NONE = -6;
    private static final int LOWEST = Integer.MIN_VALUE, HIGHEST = Integer.MAX_VALUE;
    private static String promise = "";

    private PromiseTests() {
    }

    private static void due(String call, long got, long want) {
        Checks.due(promise + ": " + call, got, want);
    }

    private static void dueText(String call, String got, String want) {
        if (!got.equals(want)) Checks.due(promise + ": " + call + " (" + got + " in place of " + want + ")", 1, 0);
    }

    /** A loom with a text on card 0, with which a weaving has begun. */
    private static CallingLooms begun(String text) {
        CallingLooms loom = new CallingLooms();
        Checks.give(loom, 0, text);
        loom.begin(0);
        return loom;
    }

    private static CallingLooms typed(String text) {
        CallingLooms loom = new CallingLooms();
        Checks.type(loom, text);
        return loom;
    }

    private static void dueCloth(CallingLooms loom, String colours) {
        StringBuilder cloth = new StringBuilder();
        int picks = loom.count(2);
        for (int i = 0; i < picks; i++) cloth.append(loom.pick(i));
        dueText("cloth", cloth.toString(), colours);
    }

    private static void tieOften(CallingLooms loom, int colour, int times) {
        for (int i = 0; i < times; i++) loom.tie(colour, 99);
    }

    public static void main(String[] args) {
        testNewObject();
        testSet();
        testCard();
        testBlank();
        testBegin();
        testWeave();
        testReasonOver();
        testReasonThread();
        testReasonKnot();
        testReasonClothFull();
        testReasonNoText();
        testReasonStackFull();
        testReasonSteps();
        testReasonsInOrder();
        testPartsByShortness();
        testRepeatedParts();
        testCallsAndColours();
        testOldTextGoesOn();
        testSkip();
        testSkipOfParts();
        testTie();
        testCut();
        testOf();
        testStack();
        testThread();
        testPick();
        testByEnd();
        testByCloth();
        testWrite();
        testSign();
        testCount();
        testPicks();
        testPicksOfColours();
        testPicksAtTheMost();
        testDepth();
        testReaches();
        testStop();
        testAhead();
        testPut();
        testWipe();
        testFault();
        testUndo();
        testUndoTakesAllBack();
        testHistoryIsShort();
        testErrorsChangeNothing();
        testSave();
        testRestore();
        Checks.end("PromiseTests");
    }

    private static void testNewObject() {
        promise = "1 new object";
        CallingLooms loom = new CallingLooms();
        int[] counts = {0, 0, 0, 0, 0, 0, 0, 0, 300, 5, 20, 10, 0, 0};
        for (int what = 0; what < counts.length; what++) due("count(" + what + ")", loom.count(what), counts[what]);
        for (int card = 0; card < 10; card++) {
            for (int what = 0; what < 7; what++) due("of(" + card + ", " + what + ")", loom.of(card, what), 0);
        }
        for (int colour = 0; colour < 6; colour++) {
            due("thread(" + colour + ", 0)", loom.thread(colour, 0), 50);
            for (int what = 1; what < 6; what++) due("thread(" + colour + ", " + what + ")", loom.thread(colour, what), 0);
        }
        due("pick(0)", loom.pick(0), NO_SUCH);
        due("stack(0, 0)", loom.stack(0, 0), NO_SUCH);
        due("undo()", loom.undo(), NOT_POSSIBLE);
        due("restore(0)", loom.restore(0), NOT_POSSIBLE);
        due("fault()", loom.fault(), 0);
        CallingLooms other = begun("w9");
        other.weave(3);
        due("count(2) of the first loom", loom.count(2), 0);
    }

    private static void testSet() {
        promise = "2 set";
        int[] first = {5, 20, 10};
        int[] lowest = {1, 2, 0};
        int[] highest = {9, 99, 99};
        for (int setting = 0; setting < 3; setting++) {
            CallingLooms loom = new CallingLooms();
            due("too low", loom.set(setting, lowest[setting] - 1), BAD_VALUE);
            due("too high", loom.set(setting, highest[setting] + 1), BAD_VALUE);
            due("far too low", loom.set(setting, LOWEST), BAD_VALUE);
            due("far too high", loom.set(setting, HIGHEST), BAD_VALUE);
            due("undone after errors", loom.count(13), 0);
            due("lowest", loom.set(setting, lowest[setting]), first[setting]);
            due("highest", loom.set(setting, highest[setting]), lowest[setting]);
            due("the same again", loom.set(setting, highest[setting]), highest[setting]);
            due("the setting", loom.count(9 + setting), highest[setting]);
            due("undone", loom.count(13), 3);
            loom.undo();
            loom.undo();
            due("the setting then", loom.count(9 + setting), lowest[setting]);
        }
        CallingLooms loom = new CallingLooms();
        due("set(3, 5)", loom.set(3, 5), BAD_VALUE);
        due("set(-1, 5)", loom.set(-1, 5), BAD_VALUE);
        due("set(LOWEST, 5)", loom.set(LOWEST, 5), BAD_VALUE);
        due("set(HIGHEST, 5)", loom.set(HIGHEST, 5), BAD_VALUE);
    }

    private static void testCard() {
        promise = "3 card";
        CallingLooms loom = typed("wc3x2(s(k1)l(w9))");
        due("card(10)", loom.card(10), NO_SUCH);
        due("card(-1)", loom.card(-1), NO_SUCH);
        due("pad after errors", loom.count(12), 17);
        due("card(9)", loom.card(9), 7);
        due("pad", loom.count(12), 0);
        due("of(9, 1)", loom.of(9, 1), 7);
        due("empty pad", loom.card(9), BAD_TEXT);
        due("empty pad, no card", loom.card(10), NO_SUCH);
        Checks.type(loom, "w1");
        due("faulty pad", loom.card(9), BAD_TEXT);
        due("faulty pad stays", loom.count(12), 2);
        due("text stays", loom.of(9, 0), 17);
        due("undone", loom.count(13), 1);
        loom.wipe();
        Checks.type(loom, "w");
        due("in place of the old one", loom.card(9), 1);
        due("length", loom.of(9, 0), 1);
        due("undone", loom.count(13), 2);
        loom.undo();
        due("length after undo", loom.of(9, 0), 17);
        due("pad after undo", loom.count(12), 0);
        Checks.type(loom, "w9".repeat(40));
        due("80 characters", loom.card(0), 40);
        due("length 80", loom.of(0, 0), 80);
    }

    private static void testBlank() {
        promise = "4 blank";
        CallingLooms loom = new CallingLooms();
        due("blank(10)", loom.blank(10), NO_SUCH);
        due("blank(-1)", loom.blank(-1), NO_SUCH);
        due("blank(0)", loom.blank(0), NOT_POSSIBLE);
        Checks.give(loom, 0, "k0k3");
        Checks.give(loom, 1, "s(k0)");
        Checks.give(loom, 2, "k1");
        Checks.give(loom, 9, "x2(l(k0))");
        due("blank(0) has no longer its own call", loom.blank(0), 1 << 1 | 1 << 9);
        due("of(0, 0)", loom.of(0, 0), 0);
        due("count(0)", loom.count(0), 1 << 1 | 1 << 2 | 1 << 9);
        due("blank(0) again", loom.blank(0), NOT_POSSIBLE);
        due("blank(2)", loom.blank(2), 0);
        due("undone", loom.count(13), 6);
        loom.undo();
        loom.undo();
        due("of(0, 0) after undo", loom.of(0, 0), 4);
    }

    private static void testBegin() {
        promise = "5 begin";
        CallingLooms loom = new CallingLooms();
        due("begin(10)", loom.begin(10), NO_SUCH);
        due("begin(-1)", loom.begin(-1), NO_SUCH);
        due("begin(1)", loom.begin(1), NOT_POSSIBLE);
        due("undone", loom.count(13), 0);
        Checks.give(loom, 1, "c4wk2w");
        Checks.give(loom, 2, "w3");
        due("begin(1)", loom.begin(1), 0);
        due("on the stack", loom.count(1), 1);
        due("colour", loom.stack(0, 1), 0);
        due("place", loom.stack(0, 2), 0);
        loom.weave(2);
        due("begin(2)", loom.begin(2), 2);
        due("on the stack", loom.count(1), 1);
        due("card", loom.stack(0, 0), 2);
        due("colour", loom.stack(0, 1), 0);
        due("the cloth stays", loom.count(2), 2);
        due("begun", loom.of(2, 4), 2);
        due("calls", loom.count(5), 1);
        due("undone", loom.count(13), 5);
        loom.weave(3);
        due("begin(2) when it is over", loom.begin(2), 0);
        Checks.give(loom, 3, "wx2(w2)");
        loom.begin(3);
        loom.weave(2);
        due("in a part", loom.stack(0, 3), 1);
        due("begin(3)", loom.begin(3), 1);
        due("in no part", loom.stack(0, 3), 0);
        due("all its picks", loom.weave(9), 5);
    }

    private static void testWeave() {
        promise = "6 weave";
        CallingLooms loom = begun("w3c1w2");
        due("weave(0)", loom.weave(0), BAD_VALUE);
        due("weave(100)", loom.weave(100), BAD_VALUE);
        due("weave(-1)", loom.weave(-1), BAD_VALUE);
        due("weave(LOWEST)", loom.weave(LOWEST), BAD_VALUE);
        due("weave(HIGHEST)", loom.weave(HIGHEST), BAD_VALUE);
        due("undone", loom.count(13), 2);
        due("weave(2)", loom.weave(2), 2);
        due("place in the middle of a w", loom.stack(0, 2), 0);
        due("weave(1)", loom.weave(1), 1);
        due("place behind it", loom.stack(0, 2), 2);
        due("colour before the c is done", loom.stack(0, 1), 0);
        due("weave(1)", loom.weave(1), 1);
        due("colour", loom.stack(0, 1), 1);
        due("place", loom.stack(0, 2), 4);
        due("reason", loom.count(6), 0);
        due("weave(99)", loom.weave(99), 1);
        due("reason", loom.count(6), 1);
        due("on the stack", loom.count(1), 0);
        due("undone", loom.count(13), 6);
        dueCloth(loom, "00011");
    }

    private static void testReasonOver() {
        promise = "6 weave, over";
        CallingLooms loom = new CallingLooms();
        due("none begun", loom.weave(1), 0);
        due("reason", loom.count(6), 1);
        due("a change", loom.count(13), 1);
        loom = begun("w2");
        due("all picks", loom.weave(2), 2);
        due("reason, all woven", loom.count(6), 0);
        due("left at once", loom.count(1), 0);
        due("weave(1)", loom.weave(1), 0);
        due("reason", loom.count(6), 1);
    }

    private static void testReasonThread() {
        promise = "6 weave, thread";
        CallingLooms loom = begun("x9(w9)");
        loom.set(1, 99);
        due("weave(99)", loom.weave(99), 50);
        due("reason", loom.count(6), 2);
        due("ells", loom.thread(0, 0), 0);
        due("weave(1)", loom.weave(1), 0);
        loom.tie(0, 2);
        due("with two more", loom.weave(5), 2);
        due("reason", loom.count(6), 2);
        loom.tie(0, 1);
        due("the last one", loom.weave(1), 1);
        due("reason", loom.count(6), 0);
    }

    private static void testReasonKnot() {
        promise = "6 weave, knot";
        CallingLooms loom = begun("w9w9w9c1w9w9w9");
        due("weave(99)", loom.weave(99), 20);
        due("reason", loom.count(6), 3);
        due("strain", loom.thread(0, 1), 20);
        due("place", loom.stack(0, 2), 4);
        loom.set(1, 19);
        due("more than is due", loom.weave(99), 0);
        loom.set(1, 21);
        due("weave(99)", loom.weave(99), 1);
        due("reason", loom.count(6), 3);
        loom.tie(0, 1);
        due("weave(99)", loom.weave(99), 6 + 21);
        due("reason", loom.count(6), 3);
        due("strain of 0", loom.thread(0, 1), 6);
        due("strain of 1", loom.thread(1, 1), 21);
    }

    private static void testReasonClothFull() {
        promise = "6 weave, cloth";
        CallingLooms loom = begun("x9(x9(w9))");
        loom.set(1, 99);
        int woven = 0;
        for (int i = 0; i < 9; i++) {
            loom.tie(0, 99);
            woven += loom.weave(50);
        }
        due("woven", woven, 400);
        due("reason", loom.count(6), 4);
        due("cloth", loom.count(2), 400);
        due("stop(1)", loom.stop(1), 4);
        due("pick(399)", loom.pick(399), 0);
        due("pick(400)", loom.pick(400), NO_SUCH);
        loom.tie(0, 99);
        loom.cut();
        due("goes on", loom.weave(99), 99);
        due("woven so far", loom.count(3), 499);
    }

    private static void testReasonNoText() {
        promise = "6 weave, no text";
        CallingLooms loom = begun("wk3w");
        due("weave(9)", loom.weave(9), 1);
        due("reason", loom.count(6), 5);
        due("place", loom.stack(0, 2), 1);
        due("calls", loom.count(5), 0);
        due("of(3, 4)", loom.of(3, 4), 0);
        Checks.give(loom, 3, "c2w");
        due("goes on", loom.weave(9), 2);
        due("calls", loom.count(5), 1);
        dueCloth(loom, "020");
    }

    private static void testReasonStackFull() {
        promise = "6 weave, stack";
        CallingLooms loom = begun("wk0");
        due("weave(9)", loom.weave(9), 5);
        due("reason", loom.count(6), 6);
        due("on the stack", loom.count(1), 5);
        loom.set(0, 3);
        due("more than DEPTH", loom.weave(9), 0);
        due("reason", loom.count(6), 6);
        loom.set(0, 9);
        due("weave(9)", loom.weave(9), 4);
        due("on the stack", loom.count(1), 9);
        due("reason", loom.count(6), 6);
        due("calls", loom.count(5), 8);
        due("most", loom.count(4), 9);
        due("of(0, 5)", loom.of(0, 5), 9);
        due("of(0, 4)", loom.of(0, 4), 9);
        due("skip() ends them all", loom.skip(), 0);
    }

    private static void testReasonSteps() {
        promise = "6 weave, steps";
        // Each time of the inner part is two steps: its beginning and the "c".
        CallingLooms loom = begun("x9(x9(x9(c1)))w");
        due("weave(1)", loom.weave(1), 0);
        due("reason", loom.count(6), 7);
        due("weave(1)", loom.weave(1), 0);
        due("weave(1)", loom.weave(1), 0);
        due("the fourth time", loom.weave(1), 1);
        Checks.give(loom, 0, "w" + "x9(x9(c1c1c1c1c1))" + "c1c1c1c1w");
        loom.begin(0);
        // Ahead of the second pick: 9 + 81 + 405 steps in the part, and 4 behind it.
        due("499 steps", loom.weave(2), 2);
        Checks.give(loom, 0, "w" + "x9(x9(c1c1c1c1c1))" + "c1c1c1c1c1w");
        loom.begin(0);
        due("500 steps", loom.weave(2), 1);
        due("reason", loom.count(6), 7);
        due("place", loom.stack(0, 2), 29);
        due("length", loom.write(0), 30);
        due("goes on", loom.weave(2), 1);
        due("reason", loom.count(6), 1);
        // A new asking counts anew, but here it has the same 500 steps ahead of it.
        loom.begin(0);
        loom.weave(1);
        due("500 steps from a new asking", loom.weave(1), 0);
        due("reason", loom.count(6), 7);
        // Calls and parts that are left out are steps, too.
        Checks.give(loom, 1, "s(w)");
        Checks.give(loom, 0, "x9(x9(k1k1))k1k1c1wc2w");
        loom.begin(0);
        // 9 + 81 + 162 * 2 = 414, and 4 + 1 behind it.
        due("419 steps", loom.weave(1), 1);
        Checks.give(loom, 0, "x9(x9(k1s(w)k1))k1k1c1wc2w");
        loom.begin(0);
        // 9 + 81 + 81 * 5 = 495, and 4 + 1 behind it.
        due("500 steps", loom.weave(1), 0);
        due("reason", loom.count(6), 7);
        due("place", loom.stack(0, 2), 22);
    }

    private static void testReasonsInOrder() {
        promise = "6 weave, order of reasons";
        CallingLooms loom = begun("x9(w9)");
        loom.set(1, 50);
        loom.weave(99);
        due("no ells, and a knot due", loom.count(6), 2);
        // A knot is due when the cloth is full.
        loom = begun("x9(x9(w9))");
        loom.set(1, 80);
        for (int i = 0; i < 5; i++) {
            loom.tie(0, 99);
            loom.weave(80);
        }
        due("cloth", loom.count(2), 400);
        due("weave(1)", loom.weave(1), 0);
        due("a knot due, and the cloth full", loom.count(6), 3);
        // A card without a text, and a full stack.
        loom = begun("k5");
        loom.set(0, 1);
        loom.weave(1);
        due("no text, and the stack full", loom.count(6), 5);
        Checks.give(loom, 5, "w");
        loom.weave(1);
        due("the stack full", loom.count(6), 6);
        // 500 steps and another reason at the same step.
        loom = begun("x9(x9(c1c1c1c1c1))c1c1c1c1c1k7");
        loom.weave(1);
        due("no text behind 500 steps", loom.count(6), 5);
        Checks.give(loom, 7, "w");
        loom.begin(0);
        loom.set(0, 1);
        loom.weave(1);
        due("the stack full behind 500 steps", loom.count(6), 6);
        loom.set(0, 2);
        loom.begin(0);
        loom.weave(1);
        due("500 steps at a call", loom.count(6), 7);
        loom = begun("x9(x9(c1c1c1c1c1))c1c1c1c1c1");
        loom.weave(1);
        due("over behind 500 steps", loom.count(6), 1);
    }

    private static void testPartsByShortness() {
        promise = "6 weave, short threads";
        CallingLooms loom = begun("s(c1w)l(c2w)");
        loom.set(2, 50);
        due("50 ells are not short of 50", loom.weave(9), 1);
        dueCloth(loom, "2");
        loom.set(2, 51);
        loom.begin(0);
        // The thread of colour 1 is short as well when the loom comes to the "l".
        due("short", loom.weave(9), 1);
        dueCloth(loom, "21");
        loom.tie(1, 9);
        loom.begin(0);
        due("both parts", loom.weave(9), 2);
        dueCloth(loom, "2112");
        // It is told as the loom comes to it, not when the weaving begins.
        loom = begun("w9s(c3w)");
        loom.set(2, 42);
        due("short by then", loom.weave(99), 10);
        due("ells", loom.thread(0, 0), 41);
        due("pick(9)", loom.pick(9), 3);
        loom = begun("w9s(c3w)");
        loom.set(2, 41);
        due("not short by then", loom.weave(99), 9);
    }

    private static void testRepeatedParts() {
        promise = "6 weave, repeated parts";
        CallingLooms loom = begun("x3(wc1x2(wc2))c5w");
        due("weave(99)", loom.weave(99), 10);
        dueCloth(loom, "0122122125");
        loom = begun("x2(ws(w)l(x2(c4w)))");
        due("weave(1)", loom.weave(1), 1);
        due("place", loom.stack(0, 2), 4);
        due("parts", loom.stack(0, 3), 1);
        due("weave(1)", loom.weave(1), 1);
        due("place: x once more", loom.stack(0, 2), 10);
        due("parts", loom.stack(0, 3), 2);
        due("weave(1)", loom.weave(1), 1);
        due("place: the outer x once more", loom.stack(0, 2), 0);
        due("parts", loom.stack(0, 3), 0);
        due("weave(99)", loom.weave(99), 3);
        dueCloth(loom, "044444");
    }

    private static void testCallsAndColours() {
        promise = "6 weave, calls";
        CallingLooms loom = new CallingLooms();
        Checks.give(loom, 0, "c3k1wk2w");
        Checks.give(loom, 1, "wc4w");
        Checks.give(loom, 2, "k1k1");
        loom.begin(0);
        due("weave(2)", loom.weave(2), 2);
        due("the called card has left", loom.count(1), 1);
        due("its own colour", loom.stack(0, 1), 3);
        due("place", loom.stack(0, 2), 4);
        due("weave(2)", loom.weave(2), 2);
        due("on the stack", loom.count(1), 3);
        due("weave(1)", loom.weave(1), 1);
        due("a caller goes on behind its call", loom.stack(0, 2), 2);
        due("weave(99)", loom.weave(99), 3);
        dueCloth(loom, "34334343");
        due("calls", loom.count(5), 4);
        due("of(1, 4)", loom.of(1, 4), 3);
        due("most", loom.count(4), 3);
        // A card that is called last takes those below along.
        Checks.give(loom, 0, "x2(k2)");
        loom.begin(0);
        loom.weave(3);
        due("on the stack", loom.count(1), 3);
        loom.weave(1);
        due("on the stack", loom.count(1), 1);
        due("x once more", loom.stack(0, 2), 0);
        loom.weave(4);
        due("on the stack", loom.count(1), 0);
    }

    private static void testOldTextGoesOn() {
        promise = "6 weave, old text";
        CallingLooms loom = new CallingLooms();
        Checks.give(loom, 0, "wk1k1w");
        Checks.give(loom, 1, "c1w3");
        loom.begin(0);
        loom.weave(2);
        Checks.give(loom, 1, "c2w");
        due("old length is away", loom.of(1, 0), 3);
        due("still at the old place", loom.stack(0, 2), 2);
        loom.blank(0);
        due("weave(99)", loom.weave(99), 4);
        dueCloth(loom, "011120");
        due("begin(0)", loom.begin(0), NOT_POSSIBLE);
    }

    private static void testSkip() {
        promise = "7 skip";
        CallingLooms loom = new CallingLooms();
        due("none begun", loom.skip(), NOT_POSSIBLE);
        due("undone", loom.count(13), 0);
        loom = begun("w3c1wk2w");
        due("a pick of the w", loom.skip(), 1);
        due("place", loom.stack(0, 2), 0);
        due("weave(1)", loom.weave(1), 1);
        due("the last pick of the w", loom.skip(), 1);
        due("place", loom.stack(0, 2), 2);
        due("a c", loom.skip(), 1);
        due("place", loom.stack(0, 2), 4);
        due("colour", loom.stack(0, 1), 0);
        due("w", loom.skip(), 1);
        due("call without a text", loom.skip(), 1);
        due("place", loom.stack(0, 2), 7);
        due("calls", loom.count(5), 0);
        due("of(2, 4)", loom.of(2, 4), 0);
        due("w", loom.skip(), 0);
        due("over", loom.skip(), NOT_POSSIBLE);
        due("picks", loom.count(3), 1);
        due("ells", loom.thread(0, 0), 49);
        due("reason stays", loom.count(6), 0);
        due("undone", loom.undo(), 5);
        due("on the stack again", loom.count(1), 1);
        // The last step of a called card takes the one below behind its call.
        Checks.give(loom, 2, "w");
        Checks.give(loom, 0, "k2wk2");
        loom.begin(0);
        loom.weave(1);
        due("place", loom.stack(0, 2), 2);
        loom.weave(1);
        due("a call is passed", loom.skip(), 0);
    }

    private static void testSkipOfParts() {
        promise = "7 skip, parts";
        CallingLooms loom = begun("x3(w2)wl(w)s(w)w");
        due("x with all its times", loom.skip(), 1);
        due("place", loom.stack(0, 2), 6);
        loom.skip();
        due("place", loom.stack(0, 2), 7);
        due("l", loom.skip(), 1);
        due("place", loom.stack(0, 2), 11);
        due("s", loom.skip(), 1);
        due("place", loom.stack(0, 2), 15);
        due("w", loom.skip(), 0);
        loom.begin(0);
        loom.weave(2);
        due("x once more", loom.stack(0, 2), 0);
        due("with the times that are left", loom.skip(), 1);
        due("place", loom.stack(0, 2), 6);
        loom.begin(0);
        loom.weave(1);
        due("in the part", loom.stack(0, 3), 1);
        due("a pick in the part", loom.skip(), 1);
        due("x once more", loom.stack(0, 2), 0);
        due("times left", loom.stop(0), 2 * 2 + 1 + 1 + 1);
        loom = begun("x2(x2(x2(k3)))");
        Checks.give(loom, 3, "w");
        loom.weave(1);
        due("the inner x", loom.stack(0, 2), 6);
        due("in two parts", loom.stack(0, 3), 2);
        due("skip", loom.skip(), 1);
        due("the middle x", loom.stack(0, 2), 3);
        due("skip", loom.skip(), 1);
        due("the outer x", loom.stack(0, 2), 0);
        due("skip", loom.skip(), 0);
    }

    private static void testTie() {
        promise = "8 tie";
        CallingLooms loom = begun("w9");
        loom.weave(9);
        due("tie(6, 1)", loom.tie(6, 1), NO_SUCH);
        due("tie(-1, 1)", loom.tie(-1, 1), NO_SUCH);
        due("tie(6, 0)", loom.tie(6, 0), NO_SUCH);
        due("tie(0, 0)", loom.tie(0, 0), BAD_VALUE);
        due("tie(0, 100)", loom.tie(0, 100), BAD_VALUE);
        due("tie(0, LOWEST)", loom.tie(0, LOWEST), BAD_VALUE);
        due("tie(0, HIGHEST)", loom.tie(0, HIGHEST), BAD_VALUE);
        due("undone", loom.count(13), 3);
        due("strain", loom.thread(0, 1), 9);
        due("tie(0, 1)", loom.tie(0, 1), 42);
        due("strain then", loom.thread(0, 1), 0);
        due("knots", loom.thread(0, 2), 1);
        due("woven", loom.thread(0, 3), 9);
        due("tie(5, 99)", loom.tie(5, 99), 149);
        due("knots of all", loom.count(7), 2);
        tieOften(loom, 5, 8);
        due("ells", loom.thread(5, 0), 941);
        due("tie(5, 58)", loom.tie(5, 58), 999);
        due("tie(5, 1)", loom.tie(5, 1), 999);
        due("knots", loom.thread(5, 2), 11);
        due("ells of all", loom.count(8), 42 + 4 * 50 + 999);
        loom.undo();
        due("knots after undo", loom.thread(5, 2), 10);
    }

    private static void testCut() {
        promise = "9 cut";
        CallingLooms loom = begun("w5c2w2");
        due("nothing to cut", loom.cut(), 0);
        due("a change", loom.count(13), 3);
        loom.weave(6);
        due("cut()", loom.cut(), 6);
        due("cloth", loom.count(2), 0);
        due("pick(0)", loom.pick(0), NO_SUCH);
        due("picks of the cloth", loom.thread(0, 4), 0);
        due("longest row", loom.thread(0, 5), 0);
        due("byCloth(0)", loom.byCloth(0), NO_SUCH);
        due("woven so far", loom.count(3), 6);
        due("woven of 0", loom.thread(0, 3), 5);
        due("strain", loom.thread(0, 1), 5);
        loom.weave(1);
        dueCloth(loom, "2");
        loom.undo();
        loom.undo();
        dueCloth(loom, "000002");
    }

    private static void testOf() {
        promise = "10 of";
        CallingLooms loom = new CallingLooms();
        Checks.give(loom, 0, "wk0x2(k2s(c1l(k9)))");
        Checks.give(loom, 2, "k0w9");
        due("of(10, 0)", loom.of(10, 0), NO_SUCH);
        due("of(-1, 9)", loom.of(-1, 9), NO_SUCH);
        due("of(0, 7)", loom.of(0, 7), BAD_VALUE);
        due("of(0, -1)", loom.of(0, -1), BAD_VALUE);
        due("of(9, 7)", loom.of(9, 7), BAD_VALUE);
        due("length", loom.of(0, 0), 19);
        due("steps", loom.of(0, 1), 8);
        due("calls", loom.of(0, 2), 1 | 1 << 2 | 1 << 9);
        due("called by", loom.of(0, 3), 1 | 1 << 2);
        due("a card without a text is called, too", loom.of(9, 3), 1);
        due("begun", loom.of(0, 4), 0);
        due("nesting", loom.of(0, 6), 3);
        due("nesting without brackets", loom.of(2, 6), 0);
        due("calls without a text", loom.of(9, 2), 0);
        due("steps without a text", loom.of(9, 1), 0);
        loom.begin(0);
        loom.weave(9);
        due("begun and called", loom.of(0, 4), 5);
        due("on the stack", loom.of(0, 5), 5);
        loom.begin(2);
        due("on the stack", loom.of(0, 5), 0);
        due("begun stays", loom.of(0, 4), 5);
        loom.blank(0);
        due("begun stays without a text", loom.of(0, 4), 5);
        due("length", loom.of(0, 0), 0);
        due("nesting", loom.of(0, 6), 0);
        due("called by", loom.of(0, 3), 1 << 2);
    }

    private static void testStack() {
        promise = "11 stack";
        CallingLooms loom = new CallingLooms();
        due("empty", loom.stack(0, 0), NO_SUCH);
        due("empty, and a bad what", loom.stack(0, 4), NO_SUCH);
        Checks.give(loom, 0, "c5x2(wk3)");
        Checks.give(loom, 3, "l(c1l(x3(w2)))");
        loom.begin(0);
        loom.weave(4);
        int[] top = {3, 1, 9, 3};
        int[] below = {0, 5, 6, 1};
        for (int what = 0; what < 4; what++) {
            due("stack(0, " + what + ")", loom.stack(0, what), top[what]);
            due("stack(1, " + what + ")", loom.stack(1, what), below[what]);
        }
        due("stack(2, 0)", loom.stack(2, 0), NO_SUCH);
        due("stack(-1, 0)", loom.stack(-1, 0), NO_SUCH);
        due("stack(LOWEST, 0)", loom.stack(LOWEST, 0), NO_SUCH);
        due("stack(0, 4)", loom.stack(0, 4), BAD_VALUE);
        due("stack(0, -1)", loom.stack(0, -1), BAD_VALUE);
        due("stack(2, 4)", loom.stack(2, 4), NO_SUCH);
    }

    private static void testThread() {
        promise = "12 thread";
        CallingLooms loom = begun("w2c1w3c0w4c1wc0w");
        due("weave(99)", loom.weave(99), 11);
        int[] zero = {43, 7, 0, 7, 7, 4};
        int[] one = {46, 4, 0, 4, 4, 3};
        for (int what = 0; what < 6; what++) {
            due("thread(0, " + what + ")", loom.thread(0, what), zero[what]);
            due("thread(1, " + what + ")", loom.thread(1, what), one[what]);
        }
        loom.tie(1, 10);
        loom.cut();
        loom.begin(0);
        loom.weave(3);
        int[] then = {55, 1, 1, 5, 1, 1};
        for (int what = 0; what < 6; what++) due("thread(1, " + what + ")", loom.thread(1, what), then[what]);
        due("thread(6, 0)", loom.thread(6, 0), NO_SUCH);
        due("thread(-1, 6)", loom.thread(-1, 6), NO_SUCH);
        due("thread(5, 6)", loom.thread(5, 6), BAD_VALUE);
        due("thread(5, -1)", loom.thread(5, -1), BAD_VALUE);
    }

    private static void testPick() {
        promise = "13 pick";
        CallingLooms loom = begun("c4wc5w");
        due("pick(0)", loom.pick(0), NO_SUCH);
        loom.weave(2);
        due("pick(0)", loom.pick(0), 4);
        due("pick(1)", loom.pick(1), 5);
        due("pick(2)", loom.pick(2), NO_SUCH);
        due("pick(-1)", loom.pick(-1), NO_SUCH);
        due("pick(LOWEST)", loom.pick(LOWEST), NO_SUCH);
        due("pick(HIGHEST)", loom.pick(HIGHEST), NO_SUCH);
    }

    private static void testByEnd() {
        promise = "14 byEnd";
        CallingLooms loom = begun("c3w2c5w2c4w");
        for (int rank = 0; rank < 6; rank++) due("byEnd(" + rank + ")", loom.byEnd(rank), rank);
        loom.weave(99);
        loom.tie(0, 1);
        int[] order = {3, 5, 4, 1, 2, 0};
        for (int rank = 0; rank < 6; rank++) due("byEnd(" + rank + ")", loom.byEnd(rank), order[rank]);
        due("byEnd(6)", loom.byEnd(6), NO_SUCH);
        due("byEnd(-1)", loom.byEnd(-1), NO_SUCH);
    }

    private static void testByCloth() {
        promise = "15 byCloth";
        CallingLooms loom = begun("c3w2c5w3c4w2wc1w");
        due("byCloth(0)", loom.byCloth(0), NO_SUCH);
        loom.weave(99);
        int[] order = {4, 5, 3, 1};
        for (int rank = 0; rank < 4; rank++) due("byCloth(" + rank + ")", loom.byCloth(rank), order[rank]);
        due("byCloth(4)", loom.byCloth(4), NO_SUCH);
        due("byCloth(-1)", loom.byCloth(-1), NO_SUCH);
        due("byCloth(6)", loom.byCloth(6), NO_SUCH);
        loom.cut();
        Checks.give(loom, 0, "c5wc2w");
        loom.begin(0);
        loom.weave(2);
        due("what was woven before does not count", loom.byCloth(0), 2);
        due("byCloth(1)", loom.byCloth(1), 5);
        due("byCloth(2)", loom.byCloth(2), NO_SUCH);
    }

    private static void testWrite() {
        promise = "16 write";
        CallingLooms loom = new CallingLooms();
        due("write(10)", loom.write(10), NO_SUCH);
        due("write(-1)", loom.write(-1), NO_SUCH);
        Checks.type(loom, "old");
        due("write(0)", loom.write(0), NOT_POSSIBLE);
        dueText("pad stays", Checks.padOf(loom), "old");
        Checks.give(loom, 0, "x2(wk1)c3");
        Checks.type(loom, "something-longer");
        due("write(0)", loom.write(0), 9);
        dueText("in place of what was there", Checks.padOf(loom), "x2(wk1)c3");
        due("not a change", loom.count(13), 1);
        due("the card keeps it", loom.of(0, 0), 9);
        Checks.type(loom, "w2");
        due("card(1)", loom.card(1), 5);
        due("write(1)", loom.write(1), 11);
        dueText("both texts", Checks.padOf(loom), "x2(wk1)c3w2");
        due("write(0)", loom.write(0), 9);
        dueText("the first one as it was", Checks.padOf(loom), "x2(wk1)c3");
        loom.undo();
        dueText("undo leaves the pad", Checks.padOf(loom), "x2(wk1)c3");
    }

    private static void testSign() {
        promise = "17 sign";
        CallingLooms loom = new CallingLooms();
        due("sign(0)", loom.sign(0), NO_SUCH);
        Checks.type(loom, "!~w");
        due("sign(0)", loom.sign(0), 33);
        due("sign(1)", loom.sign(1), 126);
        due("sign(2)", loom.sign(2), 'w');
        due("sign(3)", loom.sign(3), NO_SUCH);
        due("sign(-1)", loom.sign(-1), NO_SUCH);
        due("sign(LOWEST)", loom.sign(LOWEST), NO_SUCH);
        due("sign(80)", loom.sign(80), NO_SUCH);
        loom.wipe();
        due("sign(0)", loom.sign(0), NO_SUCH);
    }

    private static void testCount() {
        promise = "18 count";
        CallingLooms loom = new CallingLooms();
        due("count(14)", loom.count(14), BAD_VALUE);
        due("count(-1)", loom.count(-1), BAD_VALUE);
        due("count(LOWEST)", loom.count(LOWEST), BAD_VALUE);
        Checks.give(loom, 1, "c1wk7w");
        Checks.give(loom, 7, "c2w3k9");
        loom.begin(1);
        loom.weave(9);
        loom.tie(2, 7);
        loom.tie(4, 1);
        Checks.type(loom, "abc");
        int[] counts = {1 << 1 | 1 << 7, 2, 4, 4, 2, 1, 5, 2, 304, 5, 20, 10, 3, 6};
        for (int what = 0; what < counts.length; what++) due("count(" + what + ")", loom.count(what), counts[what]);
        loom.cut();
        loom.begin(1);
        due("picks of the cloth", loom.count(2), 0);
        due("woven so far", loom.count(3), 4);
        due("the most stays", loom.count(4), 2);
        due("reason stays", loom.count(6), 5);
        loom.weave(1);
        due("reason", loom.count(6), 0);
    }

    private static void testPicks() {
        promise = "19 picks";
        CallingLooms loom = new CallingLooms();
        Checks.give(loom, 0, "w2k1x3(w)s(w9)");
        due("picks(10, 0)", loom.picks(10, 0), NO_SUCH);
        due("picks(-1, 9)", loom.picks(-1, 9), NO_SUCH);
        due("picks(0, 6)", loom.picks(0, 6), BAD_VALUE);
        due("picks(0, -1)", loom.picks(0, -1), BAD_VALUE);
        due("picks(0, -7)", loom.picks(0, -7), BAD_VALUE);
        due("picks(1, 6)", loom.picks(1, 6), BAD_VALUE);
        due("picks(1, 0): no text", loom.picks(1, 0), NOT_POSSIBLE);
        due("picks(0, 0): calls one without a text", loom.picks(0, 0), NOT_POSSIBLE);
        Checks.give(loom, 1, "s(k2)l(w)");
        due("reaches one without a text, in a part that is left out", loom.picks(0, NONE), NOT_POSSIBLE);
        Checks.give(loom, 2, "w9");
        due("picks(0, NONE)", loom.picks(0, NONE), 2 + 1 + 3);
        due("picks(1, NONE)", loom.picks(1, NONE), 1);
        loom.set(2, 99);
        loom.set(0, 1);
        due("as if no thread were short", loom.picks(0, NONE), 6);
        Checks.give(loom, 2, "s(k1)w");
        due("reaches a card that reaches itself", loom.picks(0, NONE), NONE);
        due("reaches itself", loom.picks(1, 0), NONE);
        Checks.give(loom, 2, "k1k5");
        due("no text is told first", loom.picks(0, NONE), NOT_POSSIBLE);
        Checks.give(loom, 5, "w");
        due("then the way back", loom.picks(0, NONE), NONE);
        due("a card beside them", loom.picks(5, 0), 1);
        Checks.give(loom, 3, "k3");
        due("calls itself", loom.picks(3, NONE), NONE);
        due("nothing changes", loom.count(3), 0);
    }

    private static void testPicksOfColours() {
        promise = "19 picks, colours";
        CallingLooms loom = new CallingLooms();
        Checks.give(loom, 0, "wx3(wk1c2w)k1w");
        Checks.give(loom, 1, "w2c4w");
        // Card 0: 0, (0 004 2), (2 224 2) twice, 224, 2.
        int[] each = {1 + 1 + 2, 0, 1 + 4 * 2 + 2 + 1, 0, 4, 0};
        int total = 0;
        for (int colour = 0; colour < 6; colour++) {
            due("picks(0, " + colour + ")", loom.picks(0, colour), each[colour]);
            total += each[colour];
        }
        due("picks(0, NONE)", loom.picks(0, NONE), total);
        Checks.give(loom, 2, "l(c5)wx2(x2(wc1)l(wc3))s(c0)w");
        // 5, then (5 1 1) and (3 1 1), and 3: the part of the "s" is left out, that of the "l" is not.
        int[] then = {0, 4, 0, 2, 0, 2};
        for (int colour = 0; colour < 6; colour++) due("picks(2, " + colour + ")", loom.picks(2, colour), then[colour]);
        loom.begin(2);
        loom.weave(99);
        dueCloth(loom, "55113113");
        // The second time begins with the colour that the first one ends with, whatever stands behind the part.
        Checks.give(loom, 3, "x2(wl(x2(c1)c2))c5w");
        int[] last = {1, 0, 1, 0, 0, 1};
        for (int colour = 0; colour < 6; colour++) due("picks(3, " + colour + ")", loom.picks(3, colour), last[colour]);
    }

    private static void testPicksAtTheMost() {
        promise = "19 picks, the most";
        CallingLooms loom = new CallingLooms();
        Checks.give(loom, 9, "x5(x5(x5(w8)))");
        due("1000", loom.picks(9, 0), 1000);
        Checks.give(loom, 8, "x5(x5(x5(k9k9k9k9k9k9k9k9)))");
        due("1000000", loom.picks(8, 0), 1000000);
        due("of another colour", loom.picks(8, 1), 0);
        Checks.give(loom, 7, "k8w");
        due("one more", loom.picks(7, 0), 1000000);
        Checks.give(loom, 8, "x5(x5(x5(k9k9k9k9k9k9k9)))x5(x5(x4(k9)))x5(x5(x3(k9)))x8(x3(k9))k6");
        Checks.give(loom, 6, "x9(x9(x9(w)))x9(x9(w3))w9w9w9w");
        due("1000", loom.picks(6, 0), 729 + 243 + 28);
        // 875000 + 100000 + 75000 + 24000 + 1000
        due("1075000", loom.picks(8, 0), 1000000);
        Checks.give(loom, 8, "x5(x5(x5(k9k9k9k9k9k9k9)))x5(x5(x4(k9)))x8(x3(k9))k6");
        Checks.give(loom, 6, "x9(x9(x9(w)))x9(x9(w3))w9w9w9");
        // 875000 + 100000 + 24000 + 999
        due("999999", loom.picks(8, 0), 999999);
        for (int card = 0; card < 9; card++) Checks.give(loom, card, "x9(x9(x9(k" + (card + 1) + ")))");
        Checks.give(loom, 9, "x9(x9(x9(w9)))");
        due("far too many", loom.picks(0, NONE), 1000000);
        due("far too many", loom.picks(0, 0), 1000000);
        Checks.give(loom, 9, "x9(x9(x9(c2)))");
        due("none of many", loom.picks(0, NONE), 0);
        Checks.give(loom, 9, "c2w");
        due("none of that colour", loom.picks(0, 0), 0);
    }

    private static void testDepth() {
        promise = "20 depth";
        CallingLooms loom = new CallingLooms();
        due("depth(10)", loom.depth(10), NO_SUCH);
        due("depth(-1)", loom.depth(-1), NO_SUCH);
        due("depth(0)", loom.depth(0), NOT_POSSIBLE);
        Checks.give(loom, 0, "w");
        due("depth(0)", loom.depth(0), 1);
        for (int card = 1; card < 10; card++) {
            Checks.give(loom, card, "wk0s(k" + (card - 1) + ")");
            due("depth(" + card + ")", loom.depth(card), card + 1);
        }
        loom.blank(0);
        due("depth(9)", loom.depth(9), NOT_POSSIBLE);
        Checks.give(loom, 0, "k2");
        due("depth(9)", loom.depth(9), NONE);
        due("depth(0)", loom.depth(0), NONE);
        Checks.give(loom, 2, "w");
        Checks.give(loom, 1, "k1");
        due("depth(0)", loom.depth(0), 2);
        due("depth(1)", loom.depth(1), NONE);
        due("depth(3)", loom.depth(3), 3);
    }

    private static void testReaches() {
        promise = "21 reaches";
        CallingLooms loom = new CallingLooms();
        due("reaches(10)", loom.reaches(10), NO_SUCH);
        due("reaches(-1)", loom.reaches(-1), NO_SUCH);
        due("reaches(0)", loom.reaches(0), 0);
        Checks.give(loom, 0, "x2(s(l(k1)))");
        due("one without a text is reached", loom.reaches(0), 1 << 1);
        Checks.give(loom, 1, "k9");
        Checks.give(loom, 9, "wk5");
        Checks.give(loom, 5, "k4k9");
        due("reaches(0)", loom.reaches(0), 1 << 1 | 1 << 9 | 1 << 5 | 1 << 4);
        due("reaches(9)", loom.reaches(9), 1 << 9 | 1 << 5 | 1 << 4);
        due("reaches(4)", loom.reaches(4), 0);
        for (int card = 0; card < 10; card++) Checks.give(loom, card, "k" + (card + 9) % 10);
        due("all of them", loom.reaches(3), 1023);
        loom.blank(7);
        due("as far as there are texts", loom.reaches(9), 1 << 8 | 1 << 7);
        due("nothing changes", loom.count(5), 0);
    }

    private static void testStop() {
        promise = "22 stop";
        CallingLooms loom = new CallingLooms();
        due("stop(3)", loom.stop(3), BAD_VALUE);
        due("stop(-1)", loom.stop(-1), BAD_VALUE);
        due("stop(0)", loom.stop(0), 0);
        due("stop(1)", loom.stop(1), 1);
        due("stop(2)", loom.stop(2), NONE);
        Checks.give(loom, 0, "w2k4k5w");
        Checks.give(loom, 4, "c1w9w9w9");
        loom.begin(0);
        due("behind how many", loom.stop(0), 22);
        due("a knot", loom.stop(1), 3);
        due("card on top", loom.stop(2), 4);
        due("nothing is woven", loom.count(3), 0);
        due("no change", loom.count(13), 3);
        due("no calls", loom.of(4, 4), 0);
        due("reason stays", loom.count(6), 0);
        due("still at its first step", loom.stack(0, 2), 0);
        loom.weave(5);
        due("behind how many", loom.stop(0), 17);
        loom.set(1, 30);
        due("behind how many", loom.stop(0), 24);
        due("no text", loom.stop(1), 5);
        due("card on top", loom.stop(2), 0);
        Checks.give(loom, 5, "c2w");
        due("behind how many", loom.stop(0), 26);
        due("over", loom.stop(1), 1);
        due("no card on top", loom.stop(2), NONE);
        // More picks than weave() can be asked for.
        loom = begun("x9(x9(w9))");
        loom.set(1, 99);
        tieOften(loom, 0, 9);
        due("99 and a knot", loom.stop(0), 99);
        for (int i = 0; i < 3; i++) {
            loom.weave(99);
            loom.tie(0, 99);
        }
        loom.weave(50);
        due("up to the end of the cloth, or the knot", loom.stop(0), 49);
        Checks.give(loom, 1, "x9(w9)c1x9(w9)c2x9(w9)c3x9(w9)c4x9(w9)");
        for (int colour = 0; colour < 6; colour++) tieOften(loom, colour, 5);
        loom.cut();
        loom.begin(1);
        due("the cloth is full", loom.stop(0), 400);
        due("the cloth is full", loom.stop(1), 4);
        due("card on top", loom.stop(2), 1);
        loom = begun("wx9(x9(x9(c1)))w");
        due("behind one", loom.stop(0), 1);
        due("500 steps", loom.stop(1), 7);
    }

    private static void testAhead() {
        promise = "23 ahead";
        CallingLooms loom = new CallingLooms();
        due("ahead(0)", loom.ahead(0), BAD_VALUE);
        due("ahead(100)", loom.ahead(100), BAD_VALUE);
        due("ahead(LOWEST)", loom.ahead(LOWEST), BAD_VALUE);
        due("ahead(1)", loom.ahead(1), NONE);
        Checks.give(loom, 0, "w2c3k1w");
        Checks.give(loom, 1, "wc5w2");
        loom.begin(0);
        int[] colours = {0, 0, 3, 5, 5, 3};
        for (int i = 0; i < 6; i++) due("ahead(" + (i + 1) + ")", loom.ahead(i + 1), colours[i]);
        due("ahead(7)", loom.ahead(7), NONE);
        due("nothing is woven", loom.count(2), 0);
        due("no change", loom.count(13), 3);
        due("reason stays", loom.count(6), 0);
        loom.weave(3);
        due("ahead(1)", loom.ahead(1), 5);
        due("ahead(3)", loom.ahead(3), 3);
        due("ahead(4)", loom.ahead(4), NONE);
        loom = begun("x9(x9(w9))");
        loom.set(1, 99);
        tieOften(loom, 0, 1);
        due("ahead(99)", loom.ahead(99), 0);
        loom.weave(1);
        due("a knot is due ahead of it", loom.ahead(99), NONE);
        due("ahead(98)", loom.ahead(98), 0);
    }

    private static void testPut() {
        promise = "24 put";
        CallingLooms loom = new CallingLooms();
        due("put(0)", loom.put(0), BAD_VALUE);
        due("code 32", loom.put(32), BAD_VALUE);
        due("code 127", loom.put(127), BAD_VALUE);
        due("code 33", loom.put(33), 1);
        due("code 126", loom.put(126), 2);
        due("the last one is the lowest", loom.put('a' * 256 + 'b'), 4);
        dueText("pad", Checks.padOf(loom), "!~ab");
        due("a hole", loom.put('a' * 65536L + 'b'), BAD_VALUE);
        due("a hole at the end", loom.put('a' * 256L), BAD_VALUE);
        due("a bit far above", loom.put(Long.MIN_VALUE | 'a'), BAD_VALUE);
        due("a bit above 32", loom.put(1L << 33 | 'a'), BAD_VALUE);
        due("a wrong code in the middle", loom.put(Checks.number("ab cd")), BAD_VALUE);
        due("a wrong code as the first", loom.put(Checks.number(" bcd")), BAD_VALUE);
        due("put(-1)", loom.put(-1), BAD_VALUE);
        due("put(Long.MIN_VALUE)", loom.put(Long.MIN_VALUE), BAD_VALUE);
        due("put(Long.MAX_VALUE)", loom.put(Long.MAX_VALUE), BAD_VALUE);
        due("eight", loom.put(Checks.number("~2345678")), 12);
        dueText("pad", Checks.padOf(loom), "!~ab~2345678");
        for (int i = 0; i < 8; i++) loom.put(Checks.number("wwwwwwww"));
        due("76", loom.count(12), 76);
        due("five more", loom.put(Checks.number("abcde")), TOO_MANY);
        due("five more with a wrong one", loom.put(Checks.number("ab de")), BAD_VALUE);
        due("76 still", loom.count(12), 76);
        due("four more", loom.put(Checks.number("abcd")), 80);
        due("sign(79)", loom.sign(79), 'd');
        due("one more", loom.put('w'), TOO_MANY);
        due("eight more", loom.put(Checks.number("wwwwwwww")), TOO_MANY);
        due("not a change", loom.count(13), 0);
    }

    private static void testWipe() {
        promise = "25 wipe";
        CallingLooms loom = typed("w9w9w9w9w9");
        due("wipe()", loom.wipe(), 10);
        due("pad", loom.count(12), 0);
        due("wipe()", loom.wipe(), 0);
        due("put", loom.put('k'), 1);
        due("sign(0)", loom.sign(0), 'k');
        due("not a change", loom.count(13), 0);
    }

    private static void dueFault(String text, int fault) {
        CallingLooms loom = typed(text);
        due("fault() of " + text, loom.fault(), fault);
        due("length of " + text, loom.count(12), text.length());
        due("card() of " + text, loom.card(0) == BAD_TEXT ? 1 : 0, fault == NONE ? 0 : 1);
    }

    private static void testFault() {
        promise = "26 fault";
        String[] good = {"w", "w2", "w9", "c0", "c5", "k0", "k9", "x2(w)", "x9(w)", "s(w)", "l(w)", "ww9w", "x3(x3(x3(w)))",
            "s(l(x2(k3c4)w)w2)x2(c1)", "l(w)l(w)s(s(w)s(w))", "w9".repeat(40)};
        for (String text : good) dueFault(text, NONE);
        dueFault("", 0);
        String[] early = {"c", "k", "x", "x2", "x2(", "s", "s(", "l(w", "x2(x2(w)", "wc", "s(w9", "x2(x3(x4(w)"};
        for (String text : early) dueFault(text, text.length());
        // The fault is the last character of each.
        String[] wrong = {"w1", "w0", "w22", "w2(", "w(", "w)", "c6", "c9", "cw", "k:", "k/", "kk", "x1", "x0", "x(", "xw", "x2w",
            "x22", "s2", "s)", "sw", "l2", "x2()", "s()", "l(w)2", ")", "(", "2", "a", "W", "!", "~", "c12", "k12", "x2(w))",
            "x3(x3(x3(x", "s(l(s(l(", "x2(x2(x2(s(", "x2(x2(x2(w))))", "w2w2w2_"};
        for (String text : wrong) {
            boolean counted = text.equals("x3(x3(x3(x");
            dueFault(text, counted ? text.length() : text.length() - 1);
        }
        dueFault("x3(x3(x3(x3(w))))", 11);
        dueFault("cc0", 1);
        dueFault("w9w9)w9(", 4);
        dueFault("s(w)w1w1", 5);
        CallingLooms loom = typed("c");
        due("too early", loom.fault(), 1);
        loom.put('1');
        due("then whole", loom.fault(), NONE);
        loom.wipe();
        Checks.type(loom, "x2(x2(w");
        due("brackets that stay open", loom.fault(), 7);
        loom.wipe();
        Checks.type(loom, "x2(x2(x2(w)))");
        due("do not count for the next text", loom.fault(), NONE);
        due("not a change", loom.count(13), 0);
    }

    private static void testUndo() {
        promise = "27 undo";
        CallingLooms loom = new CallingLooms();
        due("nothing to undo", loom.undo(), NOT_POSSIBLE);
        Checks.give(loom, 0, "w3");
        loom.begin(0);
        loom.weave(2);
        due("undo() of weave", loom.undo(), 2);
        due("cloth", loom.count(2), 0);
        due("ells", loom.thread(0, 0), 50);
        due("undo() of begin", loom.undo(), 1);
        due("stack", loom.count(1), 0);
        due("most", loom.count(4), 0);
        due("of(0, 4)", loom.of(0, 4), 0);
        Checks.type(loom, "abc");
        loom.save(0);
        due("undo() of card", loom.undo(), 0);
        due("cards", loom.count(0), 0);
        dueText("the pad stays", Checks.padOf(loom), "abc");
        due("nothing left", loom.undo(), NOT_POSSIBLE);
        due("the slot stays", loom.restore(0), 0);
        due("cards", loom.count(0), 1);
        due("undo() of restore", loom.undo(), 0);
        due("cards", loom.count(0), 0);
    }

    private static void testUndoTakesAllBack() {
        promise = "27 undo, all of the state";
        String[] changes = {"weave", "skip", "tie", "cut", "set", "begin", "blank", "card"};
        for (int change = 0; change < changes.length; change++) {
            CallingLooms loom = midway();
            int[] before = readOut(loom);
            makeChange(loom, change);
            loom.undo();
            dueSame("undo of " + changes[change], readOut(loom), before);
            due("goes on as before", loom.weave(9), 1);
            due("reason", loom.count(6), 5);
        }
        CallingLooms loom = midway();
        due("calls", loom.count(5), 1);
        loom.begin(0);
        loom.weave(2);
        due("calls", loom.count(5), 2);
        loom.undo();
        due("calls after undo", loom.count(5), 1);
        due("of(1, 4) after undo", loom.of(1, 4), 1);
    }

    private static CallingLooms midway() {
        CallingLooms loom = begun("wk1w");
        Checks.give(loom, 1, "c2x2(w)k3");
        loom.weave(2);
        return loom;
    }

    private static void makeChange(CallingLooms loom, int change) {
        switch (change) {
            case 0: loom.weave(9); break;
            case 1: loom.skip(); break;
            case 2: loom.tie(2, 9); break;
            case 3: loom.cut(); break;
            case 4: loom.set(2, 9); break;
            case 5: loom.begin(1); break;
            case 6: loom.blank(1); break;
            default: Checks.give(loom, 3, "w");
        }
    }

    /** The numbers that a state of these tests has, without the pad and the history; few calls, as 512 are the most. */
    private static int[] readOut(CallingLooms loom) {
        int[] row = new int[12 + 28 + 12 + 24 + 8];
        int next = 0;
        for (int what = 0; what < 12; what++) row[next++] = loom.count(what);
        for (int card = 0; card < 4; card++) {
            for (int what = 0; what < 7; what++) row[next++] = loom.of(card, what);
        }
        for (int rank = 0; rank < 3; rank++) {
            for (int what = 0; what < 4; what++) row[next++] = loom.stack(rank, what);
        }
        for (int colour = 0; colour < 4; colour++) {
            for (int what = 0; what < 6; what++) row[next++] = loom.thread(colour, what);
        }
        for (int pick = 0; pick < 8; pick++) row[next++] = loom.pick(pick);
        return row;
    }

    private static void dueSame(String call, int[] got, int[] want) {
        for (int i = 0; i < want.length; i++) due("number " + i + " behind " + call, got[i], want[i]);
    }

    private static void testHistoryIsShort() {
        promise = "27 undo, history";
        CallingLooms loom = new CallingLooms();
        for (int value = 11; value <= 18; value++) loom.set(2, value);
        due("six at most", loom.count(13), 6);
        for (int left = 5; left >= 0; left--) {
            due("undo()", loom.undo(), left);
            due("the setting", loom.count(11), 12 + left);
        }
        due("no more", loom.undo(), NOT_POSSIBLE);
        due("the setting", loom.count(11), 12);
        loom.set(2, 12);
        due("a change without a difference", loom.count(13), 1);
        loom.cut();
        loom.weave(1);
        due("three", loom.count(13), 3);
        loom.save(0);
        loom.wipe();
        loom.stop(0);
        loom.ahead(1);
        due("these are no changes", loom.count(13), 3);
        loom.restore(0);
        due("restore is one", loom.count(13), 4);
    }

    private static void testErrorsChangeNothing() {
        promise = "27 undo, errors are not recorded";
        CallingLooms loom = new CallingLooms();
        loom.set(0, 0);
        loom.card(0);
        loom.card(10);
        loom.blank(0);
        loom.blank(10);
        loom.begin(0);
        loom.begin(10);
        loom.weave(0);
        loom.skip();
        loom.tie(0, 0);
        loom.tie(6, 1);
        loom.restore(0);
        loom.restore(2);
        loom.undo();
        due("count(13)", loom.count(13), 0);
        due("count(6)", loom.count(6), 0);
    }

    private static void testSave() {
        promise = "28 save";
        CallingLooms loom = begun("w9");
        due("save(2)", loom.save(2), BAD_VALUE);
        due("save(-1)", loom.save(-1), BAD_VALUE);
        due("restore(0)", loom.restore(0), NOT_POSSIBLE);
        due("save(0)", loom.save(0), 0);
        loom.weave(4);
        due("save(1)", loom.save(1), 4);
        due("not a change", loom.count(13), 3);
        loom.weave(2);
        due("restore(0)", loom.restore(0), 0);
        due("restore(1)", loom.restore(1), 4);
        loom.weave(3);
        due("save(0) in place of the first", loom.save(0), 7);
        loom.cut();
        due("restore(0)", loom.restore(0), 7);
        due("weave(9)", loom.weave(9), 2);
    }

    private static void testRestore() {
        promise = "29 restore";
        CallingLooms loom = begun("wk1w");
        Checks.give(loom, 1, "c3w4");
        loom.weave(3);
        loom.tie(3, 5);
        due("restore(2)", loom.restore(2), BAD_VALUE);
        due("restore(-1)", loom.restore(-1), BAD_VALUE);
        due("restore(1)", loom.restore(1), NOT_POSSIBLE);
        int[] saved = readOut(loom);
        loom.save(1);
        due("restore(0)", loom.restore(0), NOT_POSSIBLE);
        Checks.type(loom, "pad");
        loom.weave(9);
        loom.blank(1);
        loom.cut();
        loom.set(0, 2);
        int[] changed = readOut(loom);
        due("restore(1)", loom.restore(1), 3);
        dueSame("restore", readOut(loom), saved);
        dueText("the pad stays", Checks.padOf(loom), "pad");
        due("a change", loom.count(13), 6);
        due("undo()", loom.undo(), 5);
        dueSame("undo of restore", readOut(loom), changed);
        due("the slot keeps it", loom.restore(1), 3);
        loom.weave(9);
        due("and is not changed by weaving", loom.restore(1), 3);
        dueSame("restore again", readOut(loom), saved);
        due("goes on", loom.weave(9), 3);
    }
}
