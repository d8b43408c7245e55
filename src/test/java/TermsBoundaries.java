/** A test for each sentence under "Terms" of the document that names a boundary case. */
public final class TermsBoundaries {
    /** Two cards on the stack, three picks in the cloth, five changes, a pad with a fault, and something in slot 0. */
    private static final String MIDWAY =
        "start wk1k3w ; give 1 c2x2(w)c4 ; weave 2 = 2 ; save 0 = 2 ; weave 1 = 1 ; type wk ; count 1 = 2 ; count 13 = 5";
    /** 9 + 9 * 9 + 9 * 9 * 5 = 495 steps without a pick, in 18 characters. */
    private static final String STEPS_495 = "x9(x9(c1c1c1c1c1))";

    private TermsBoundaries() {
    }

    private static void run(String sentence, String... rows) {
        Script.run(sentence, rows);
    }

    private static void dueFaults(String sentence, int fault, String... texts) {
        for (String text : texts) {
            String made = fault == CallingLooms.NONE ? "card 0 = " + stepsOf(text) : "card 0 = BAD_TEXT";
            run(sentence, "type " + text + " ; fault = " + fault + " ; " + made);
        }
    }

    private static int stepsOf(String text) {
        return text.replaceAll("[^wckxsl]", "").length();
    }

    public static void main(String[] args) {
        testConventions();
        testSettings();
        testSettingsAtWork();
        testGrammar();
        testSteps();
        testParts();
        testFault();
        testThreadsAndCloth();
        testStackOfCards();
        testReasons();
        testReasonOfSteps();
        testOrderOfReasons();
        testStopsAheadOfTheStep();
        testOldTexts();
        testConstants();
        Checks.end("TermsBoundaries");
    }

    private static void testConventions() {
        testErrorsInOrder();
        testRefusedCalls();
        run("Conventions: NONE is returned only if no error applies",
            "stop 3 = BAD_VALUE ; stop 2 = NONE ; ahead 0 = BAD_VALUE ; ahead 100 = BAD_VALUE ; ahead 1 = NONE",
            "give 0 k0k1 ; picks 0 NONE = NOT_POSSIBLE ; depth 0 = NOT_POSSIBLE ; picks 0 6 = BAD_VALUE",
            "give 1 w ; picks 0 NONE = NONE ; depth 0 = NONE ; picks 0 6 = BAD_VALUE");
        run("Conventions: everything is numbered from 0",
            "give 0 wc1w ; of 0 0 = 4 ; begin 0 = 0 ; weave 2 = 2 ; pick 0 = 0 ; pick 1 = 1 ; thread 0 3 = 1 ; byEnd 0 = 0",
            "byCloth 0 = 0 ; byCloth 1 = 1 ; set 0 5 = 5 ; save 0 = 2 ; restore 0 = 2 ; type w ; sign 0 = 119 ; sign 1 = NO_SUCH",
            "begin 0 ; stack 0 0 = 0 ; stack 0 2 = 0");
        run("Conventions: a pick takes one",
            "start w2 ; weave 1 = 1 ; thread 0 0 = 49 ; weave 1 = 1 ; thread 0 0 = 48 ; count 8 = 298");
        run("Conventions: sets of cards are bit masks",
            "give 0 k9 ; give 9 k0 ; count 0 = 513 ; of 0 2 = 512 ; of 9 2 = 1 ; of 0 3 = 512 ; of 9 3 = 1 ; reaches 0 = 513");
    }

    private static void testErrorsInOrder() {
        String sentence = "Conventions: the first error that applies is returned: ";
        run(sentence + "card", "card 10 = NO_SUCH ; card 0 = BAD_TEXT");
        run(sentence + "blank, begin, write", "blank 10 = NO_SUCH ; begin 10 = NO_SUCH ; write 10 = NO_SUCH",
            "blank 0 = NOT_POSSIBLE ; begin 0 = NOT_POSSIBLE ; write 0 = NOT_POSSIBLE");
        run(sentence + "tie", "tie 6 0 = NO_SUCH ; tie -1 100 = NO_SUCH ; tie 5 0 = BAD_VALUE");
        run(sentence + "of, stack, thread", "of 10 7 = NO_SUCH ; of 9 7 = BAD_VALUE ; stack 0 4 = NO_SUCH",
            "thread 6 6 = NO_SUCH ; thread 5 6 = BAD_VALUE ; start w ; stack 1 4 = NO_SUCH ; stack 0 4 = BAD_VALUE");
        run(sentence + "picks", "picks 10 6 = NO_SUCH ; picks 9 6 = BAD_VALUE ; picks 9 5 = NOT_POSSIBLE",
            "give 9 k9k8 ; picks 9 5 = NOT_POSSIBLE ; give 8 w ; picks 9 5 = NONE");
        run(sentence + "depth", "depth 10 = NO_SUCH ; depth 9 = NOT_POSSIBLE",
            "give 9 k9k8 ; depth 9 = NOT_POSSIBLE ; give 8 w ; depth 9 = NONE");
        run(sentence + "put", "often 10 put 0x7777777777777777 ; put 0x20 = BAD_VALUE ; put 0x77 = TOO_MANY");
        run(sentence + "restore", "restore 2 = BAD_VALUE ; restore 1 = NOT_POSSIBLE");
    }

    private static void testRefusedCalls() {
        String sentence = "Conventions: a call that returns an error changes nothing: ";
        String[] refused = {
            "set -1 5 = BAD_VALUE", "set 3 5 = BAD_VALUE", "set 0 0 = BAD_VALUE", "set 0 10 = BAD_VALUE",
            "set 1 1 = BAD_VALUE", "set 1 100 = BAD_VALUE", "set 2 -1 = BAD_VALUE", "set 2 100 = BAD_VALUE",
            "card -1 = NO_SUCH", "card 10 = NO_SUCH", "card 0 = BAD_TEXT", "card 5 = BAD_TEXT",
            "blank -1 = NO_SUCH", "blank 10 = NO_SUCH", "blank 5 = NOT_POSSIBLE",
            "begin -1 = NO_SUCH", "begin 10 = NO_SUCH", "begin 5 = NOT_POSSIBLE", "weave 0 = BAD_VALUE", "weave 100 = BAD_VALUE",
            "tie -1 9 = NO_SUCH", "tie 6 9 = NO_SUCH", "tie 0 0 = BAD_VALUE", "tie 0 100 = BAD_VALUE",
            "of 10 0 = NO_SUCH", "of 0 7 = BAD_VALUE", "stack 2 0 = NO_SUCH", "stack 0 4 = BAD_VALUE", "thread 6 0 = NO_SUCH",
            "thread 0 6 = BAD_VALUE", "pick 3 = NO_SUCH", "byEnd 6 = NO_SUCH", "byCloth 2 = NO_SUCH",
            "write 10 = NO_SUCH", "write 5 = NOT_POSSIBLE", "sign 2 = NO_SUCH", "count 14 = BAD_VALUE",
            "picks 10 0 = NO_SUCH", "picks 0 6 = BAD_VALUE", "picks 0 0 = NOT_POSSIBLE", "depth 10 = NO_SUCH",
            "depth 0 = NOT_POSSIBLE", "reaches 10 = NO_SUCH", "stop 3 = BAD_VALUE", "ahead 0 = BAD_VALUE",
            "ahead 100 = BAD_VALUE",
            "put 0 = BAD_VALUE", "put 0x20 = BAD_VALUE", "put 0x7720 = BAD_VALUE", "put 0x2077 = BAD_VALUE",
            "put 0x7700 = BAD_VALUE",
            "save -1 = BAD_VALUE", "save 2 = BAD_VALUE", "restore -1 = BAD_VALUE", "restore 2 = BAD_VALUE",
            "restore 1 = NOT_POSSIBLE"};
        for (String call : refused) {
            run(sentence + call, MIDWAY, "look", call, "same ; pad = wk ; count 13 = 5 ; restore 0 = 2",
            "restore 1 = NOT_POSSIBLE");
        }
        run(sentence + "skip", "start w ; skip = 0 ; look", "skip = NOT_POSSIBLE", "same ; count 13 = 3");
        run(sentence + "undo", "start w ; undo = 1 ; undo = 0 ; look", "undo = NOT_POSSIBLE", "same ; count 13 = 0");
        run(sentence + "card, with a pad that could be read", "type w ; look", "card 10 = NO_SUCH", "same ; pad = w",
            "count 13 = 0");
        run(sentence + "put, too many", "often 9 put 0x7777777777777777 ; type kcxsl", "put 0x77777777 = TOO_MANY",
            "count 12 = 77 ; sign 76 = 108 ; sign 77 = NO_SUCH ; put 0x777777 = 80");
    }

    private static void testSettings() {
        String sentence = "Settings: range; first value: ";
        run(sentence + "DEPTH (1 to 9; 5)", "count 9 = 5 ; set 0 0 = BAD_VALUE ; set 0 1 = 5 ; count 9 = 1",
            "set 0 9 = 1 ; set 0 10 = BAD_VALUE ; count 9 = 9");
        run(sentence + "STRAIN (2 to 99; 20)", "count 10 = 20 ; set 1 1 = BAD_VALUE ; set 1 2 = 20 ; count 10 = 2",
            "set 1 99 = 2 ; set 1 100 = BAD_VALUE ; count 10 = 99");
        run(sentence + "SHORT (0 to 99; 10)", "count 11 = 10 ; set 2 -1 = BAD_VALUE ; set 2 0 = 10 ; count 11 = 0",
            "set 2 99 = 0 ; set 2 100 = BAD_VALUE ; count 11 = 99");
    }

    private static void testSettingsAtWork() {
        String atMost = "Settings: DEPTH: cards on the stack at most";
        run(atMost, "start wk0 ; weave 99 = 5 ; count 1 = 5 ; count 6 = 6");
        run(atMost, "start wk0 ; set 0 1 ; weave 99 = 1 ; count 1 = 1 ; count 6 = 6");
        run(atMost, "start wk0 ; set 0 9 ; weave 99 = 9 ; count 1 = 9 ; count 6 = 6");
        String knots = "Settings: STRAIN: picks behind which a knot is due";
        run(knots, "start w9w9w9 ; weave 99 = 20 ; count 6 = 3");
        run(knots, "start w9w9w9 ; set 1 2 ; weave 99 = 2 ; count 6 = 3");
        run(knots, "start x9(x9(w9)) ; set 1 99 ; tie 0 99 ; weave 99 = 99 ; weave 1 = 0 ; count 6 = 3");
        String few = "Settings: SHORT: a thread with fewer ells is short";
        run(few, "start s(c1w)l(c2w) ; set 2 50 ; weave 9 = 1 ; cloth = 2");
        run(few, "start s(c1w)c0l(c2w) ; set 2 51 ; weave 9 = 1 ; cloth = 1");
        run(few + " (0: none is)", "start x5(w9)w5s(c1w)l(c2w) ; set 2 0 ; set 1 99 ; weave 99 = 51 ; thread 0 0 = 0",
            "pick 50 = 2");
        run(few + " (99)", "start s(c1w)l(c2w) ; set 2 99 ; tie 0 49 = 99 ; weave 9 = 1 ; cloth = 2");
        run(few + " (99)", "start s(c1w)c0l(c2w) ; set 2 99 ; tie 0 48 = 98 ; weave 9 = 1 ; cloth = 1");
        run(few + " (10 at first)", "start x4(w9)w4s(c1w) ; set 1 99 ; weave 99 = 40 ; count 6 = 1");
        run(few + " (10 at first)", "start x4(w9)w5s(c1w) ; set 1 99 ; weave 99 = 42 ; pick 41 = 1");
    }

    private static void testGrammar() {
        run("Cards: there are 10 cards, 0 to 9, each without a text at first",
            "count 0 = 0 ; of 0 0 = 0 ; of 9 0 = 0 ; of 10 0 = NO_SUCH ; of -1 0 = NO_SUCH ; write 0 = NOT_POSSIBLE",
            "write 9 = NOT_POSSIBLE ; give 9 w ; give 0 w ; count 0 = 513");
        run("Cards: the pad is a text of at most 80 characters",
            "often 9 put 0x7777777777777777 ; put 0x77777777777777 = 79 ; put 0x7777 = TOO_MANY ; put 0x77 = 80",
            "put 0x77 = TOO_MANY ; count 12 = 80 ; sign 79 = 119 ; sign 80 = NO_SUCH ; fault = NONE ; card 0 = 80 ; of 0 0 = 80");
        String card = "Cards: card = step { step }";
        run(card, "fault = 0 ; card 0 = BAD_TEXT ; type w ; card 0 = 1");
        dueFaults(card, CallingLooms.NONE, "w", "ww", "wc0k0x2(w)s(w)l(w)", "w9".repeat(40), "w".repeat(80));
        dueFaults(card, 0, "W", "1", "0", "2", "9", "5", "(", ")", "(w)", "!", "~", "a", "y", "m");
        dueFaults(card, 1, "wW", "wa", "w~", "wy", "w(", "w)", "w!");
        testGrammarOfSteps();
    }

    private static void testGrammarOfSteps() {
        String count = "Cards: a count is 2 to 9 (once without)";
        dueFaults(count, CallingLooms.NONE, "w", "w2", "w9", "x2(w)", "x9(w)");
        dueFaults(count, 1, "w0", "w1", "w:", "w/", "x0(w)", "x1(w)", "x:(w)", "x/(w)", "x(w)");
        dueFaults(count, 2, "w22", "w99", "w20", "x22(w)", "x99(w)", "w2(w)");
        String colour = "Cards: a colour 0 to 5";
        dueFaults(colour, CallingLooms.NONE, "c0", "c5");
        dueFaults(colour, 1, "c6", "c9", "c/", "c:", "cc0", "cw", "c(w)");
        dueFaults(colour, 2, "c00", "c55", "c0(w)");
        String digit = "Cards: a digit 0 to 9";
        dueFaults(digit, CallingLooms.NONE, "k0", "k9");
        dueFaults(digit, 1, "k/", "k:", "kk0", "kw", "k(w)");
        dueFaults(digit, 2, "k00", "k99", "k0(w)");
        String part = "Cards: part = \"(\" card \")\"";
        dueFaults(part, CallingLooms.NONE, "s(w)", "l(w)", "x2(w)", "s(ww2c0)w", "s(w)l(w)x2(w)");
        dueFaults(part, 1, "sw", "lw", "s2(w)", "l2(w)", "s)", "l)", "s[w)");
        dueFaults(part, 2, "s()", "l()", "x2w", "x2)", "s((w))", "s(2)");
        dueFaults(part, 3, "x2()", "x2((w))", "s(w");
        dueFaults(part, 4, "s(w))", "l(w)2", "s(w)(w)", "x2(w");
        String brackets = "Cards: brackets are nested at most 3 deep";
        dueFaults(brackets, CallingLooms.NONE, "s(l(x2(w)))", "x9(x9(x9(w)))", "s(s(s(w)s(w))s(s(w)))s(s(s(w)))");
        dueFaults(brackets, 7, "s(s(s(s(w))))", "l(l(l(l(");
        dueFaults(brackets, 11, "x2(x2(x2(x2(w))))", "s(s(s(w)s(s(w))))");
    }

    private static void testSteps() {
        String picks = "Cards: \"w\": so many picks are woven with the card's colour";
        run(picks, "start w ; weave 99 = 1 ; cloth = 0");
        run(picks, "start c1w2 ; weave 99 = 2 ; cloth = 11");
        run(picks, "start c5w9 ; weave 99 = 9 ; cloth = 555555555");
        String colour = "Cards: \"c\": the card's colour is another one from then on";
        run(colour, "start wc5wwc0w ; weave 99 = 4 ; cloth = 0550");
        run(colour + " (behind a part, too)", "start l(c3w)wx2(wc1)w ; weave 99 = 5 ; cloth = 33311");
        run("Cards: \"k\": a card is called", "give 0 w ; give 9 c2w ; start wk9w ; weave 99 = 3 ; cloth = 020 ; of 9 4 = 1");
    }

    private static void testParts() {
        String times = "Cards: \"x\": a part is done so many times";
        run(times, "start x2(w)c1w ; weave 99 = 3 ; cloth = 001");
        run(times, "start x9(w)c1w ; weave 99 = 10 ; cloth = 0000000001");
        run(times + " (each time anew)", "start x2(x2(wc1w)c2)c3w ; weave 99 = 9 ; cloth = 011121113");
        String again = "Cards: behind its part an \"x\" with times left is the next step once more";
        run(again, "start x3(ww)w ; weave 1 ; stack 0 2 = 4 ; stack 0 3 = 1 ; weave 1 ; stack 0 2 = 0 ; stack 0 3 = 0",
            "weave 2 ; stack 0 2 = 0 ; weave 2 ; stack 0 2 = 6 ; stack 0 3 = 0");
        run(again, "start s(w)x2(l(w)) ; weave 1 ; stack 0 2 = 4 ; stack 0 3 = 0 ; weave 1 = 1 ; count 1 = 0");
        String comes = "Cards: \"s\": a part is done if the thread is short as it comes to it, \"l\" if it is not";
        run(comes, "start w5s(c1w)l(c2w) ; set 2 45 ; weave 99 = 6 ; cloth = 000002");
        run(comes, "start w6s(c1w)c0l(c2w) ; set 2 45 ; weave 99 = 7 ; cloth = 0000001");
        run(comes + " (not as it was when the weaving began)", "start w9l(c1w)s(c2w) ; set 2 45 ; weave 99 = 10 ; pick 9 = 2");
        run(comes + " (a part that has begun is done)", "start l(w9w)c1w ; set 2 50 ; weave 99 = 11 ; pick 9 = 0 ; pick 10 = 1");
        run(comes + " (at each time of an x)", "start x3(l(w9)) ; set 2 41 ; weave 99 = 18 ; count 6 = 1");
        run(comes + " (by what is left when the step is done)",
            "start wl(c1w)c0s(c2w) ; set 2 50 ; weave 1 = 1 ; stack 0 2 = 1 ; tie 0 1 ; weave 9 = 1 ; cloth = 01");
        String own = "Cards: the thread of the card's colour";
        run(own, "give 1 c1s(w)l(c2w) ; start w2k1s(c3w) ; set 2 49 ; weave 99 = 4 ; cloth = 0023");
        run(own, "start c1s(c2w)c0s(c3w) ; set 2 51 ; tie 1 1 ; weave 99 = 1 ; cloth = 3");
    }

    private static void testFault() {
        String first = "Cards: the fault is the index of the first character that cannot stand at its place";
        dueFaults(first, 0, "1w1", ")(");
        dueFaults(first, 1, "c9k", "w1w1", "s2(w", "w))))");
        dueFaults(first, 4, "w9w9)w9)", "x2(w1)w1");
        dueFaults(first, 79, "w".repeat(79) + "1", "w".repeat(79) + ")");
        dueFaults(first, 39, "w".repeat(39) + "1" + "w".repeat(40));
        String deeper = "Cards: also a bracket by which they would be nested deeper";
        dueFaults(deeper, 7, "s(s(s(s(w))))", "s(s(s(l(");
        dueFaults(deeper, 8, "s(s(s(x2(w))))");
        dueFaults(deeper, 17, "s(s(s(w)))s(s(s(s(", "s(s(s(w)))l(s(l(l(w");
        String early = "Cards: if the text ends too early, it is the length of the text";
        run(early + " (also if it is empty)", "fault = 0 ; card 0 = BAD_TEXT ; type w ; wipe ; fault = 0 ; card 0 = BAD_TEXT");
        dueFaults(early, 1, "c", "k", "x", "s", "l");
        dueFaults(early, 2, "x9", "s(", "l(", "wc");
        dueFaults(early, 3, "x2(", "s(w", "l(w", "s(x");
        dueFaults(early, 7, "s(s(s(w", "s(s(s(s", "s(s(w)k");
        dueFaults(early, 9, "s(s(s(w))", "s(s(w)w2c");
        dueFaults(early, 80, "s(" + "w".repeat(78), "w".repeat(79) + "c", "w".repeat(79) + "k", "w".repeat(78) + "x2");
    }

    private static void testThreadsAndCloth() {
        String first = "Threads: each of the colours has a thread, with 50 ells at first, and a strain (0 at first)";
        run(first, "thread 0 0 = 50 ; thread 1 0 = 50 ; thread 2 0 = 50 ; thread 3 0 = 50 ; thread 4 0 = 50 ; thread 5 0 = 50",
            "thread 0 1 = 0 ; thread 1 1 = 0 ; thread 2 1 = 0 ; thread 3 1 = 0 ; thread 4 1 = 0 ; thread 5 1 = 0",
            "thread 6 0 = NO_SUCH ; thread -1 0 = NO_SUCH ; count 8 = 300");
        run("Threads: strain: picks that were woven with it since its last knot",
            "start w9c1wc0w ; weave 10 ; thread 0 1 = 9 ; thread 1 1 = 1 ; tie 0 1 ; thread 0 1 = 0 ; thread 1 1 = 1",
            "cut ; thread 1 1 = 1 ; weave 1 ; thread 0 1 = 1 ; begin 0 ; thread 0 1 = 1");
        run("Threads: a knot is due when the strain is STRAIN or more",
            "start w9 ; set 1 5 ; weave 4 = 4 ; weave 1 = 1 ; weave 1 = 0 ; count 6 = 3 ; set 1 4 ; weave 1 = 0 ; count 6 = 3",
            "set 1 2 ; weave 1 = 0 ; count 6 = 3 ; set 1 6 ; weave 9 = 1 ; count 6 = 3");
        run("Cloth: a row of picks: up to 400",
            "start x9(x9(w9)) ; set 1 99 ; tie 0 99 ; weave 99 = 99 ; tie 0 99 ; weave 99 = 99 ; tie 0 99 ; weave 99 = 99",
            "tie 0 99 ; weave 99 = 99 ; tie 0 99 ; weave 3 = 3 ; count 2 = 399 ; weave 2 = 1 ; count 6 = 4 ; count 2 = 400",
            "pick 399 = 0 ; pick 400 = NO_SUCH ; weave 1 = 0 ; cut = 400 ; count 2 = 0 ; weave 1 = 1 ; count 2 = 1");
    }

    private static void testStackOfCards() {
        run("Weaving: the card is alone on the stack, at its first step, with the colour 0",
            "give 1 x2(w) ; start c3k1w ; weave 1 ; count 1 = 2 ; begin 0 = 2 ; count 1 = 1 ; stack 0 0 = 0 ; stack 0 1 = 0",
            "stack 0 2 = 0 ; stack 0 3 = 0 ; stack 1 0 = NO_SUCH");
        run("Weaving: a card that is called comes on top, at its first step, with the colour that the calling one has then",
            "give 1 w2c4w2 ; start c3k1c1k1 ; weave 1 ; stack 0 0 = 1 ; stack 0 1 = 3 ; stack 0 2 = 0 ; stack 0 3 = 0",
            "stack 1 0 = 0 ; stack 1 1 = 3 ; weave 99 = 7 ; cloth = 33441144");
        String leaves = "Weaving: when it is at its end it leaves the stack at once";
        run(leaves, "give 1 w ; start c3wk1w ; weave 2 ; count 1 = 1 ; stack 0 0 = 0 ; stack 0 2 = 5");
        run(leaves, "give 1 k2 ; give 2 w ; start k1w ; weave 1 ; count 1 = 1 ; stack 0 2 = 2");
        run(leaves + " (out of parts)", "give 1 l(l(l(w))) ; start x2(k1) ; weave 1 ; count 1 = 1 ; stack 0 2 = 0",
            "stack 0 3 = 0");
        run(leaves + " (9 cards, each out of 3 parts)", "start l(l(l(wk0))) ; set 0 9 ; weave 99 = 9 ; count 1 = 9 ; skip = 0",
            "begin 0 = 0 ; weave 8 = 8 ; give 0 w ; weave 1 = 1 ; count 1 = 0 ; count 4 = 9");
        run(leaves + " (behind a step that is no pick)", "give 1 ws(w) ; give 2 wc1 ; start k1k2w ; weave 1 ; count 1 = 2",
            "weave 1 ; stack 0 0 = 2 ; weave 1 = 1 ; cloth = 000 ; count 1 = 0");
        String below = "Weaving: the one below, which was at its call until then, goes on behind it, with its own colour";
        run(below, "give 1 c4w2 ; start c3k1w ; weave 1 ; stack 1 2 = 2 ; stack 1 1 = 3 ; weave 1 ; stack 0 2 = 4",
            "stack 0 1 = 3",
            "weave 1 ; cloth = 443");
        run("Weaving: when the last one has left, the weaving is over",
            "give 1 w ; start k1 ; weave 1 = 1 ; count 6 = 0 ; count 1 = 0 ; stack 0 0 = NO_SUCH ; stop 1 = 1 ; weave 1 = 0",
            "count 6 = 1");
        run("Weaving: it goes on until so many picks are woven as were asked for",
            "start w2c1k1w ; weave 1 = 1 ; stack 0 2 = 0 ; weave 1 = 1 ; stack 0 2 = 2 ; stack 0 1 = 0 ; count 6 = 0",
            "thread 0 3 = 2");
    }

    private static void testReasons() {
        String over = "Weaving: 1 the weaving is over (or none was begun)";
        run(over, "weave 1 = 0 ; count 6 = 1 ; stop 1 = 1");
        run(over, "start w9 ; weave 99 = 9 ; count 6 = 1 ; stop 1 = 1");
        run(over, "start w9 ; weave 9 = 9 ; count 6 = 0 ; weave 1 = 0 ; count 6 = 1");
        run(over, "start wc1s(w) ; weave 1 = 1 ; count 6 = 0 ; count 1 = 1 ; weave 1 = 0 ; count 6 = 1 ; count 1 = 0");
        String ells = "Weaving: 2 the thread of a pick has no ells";
        run(ells, "start x6(w9)c1w ; set 1 99 ; weave 50 = 50 ; count 6 = 0 ; thread 0 0 = 0 ; weave 1 = 0 ; count 6 = 2");
        run(ells + " (that of the pick alone)", "start x5(w9)w5c1ws(c0w) ; set 1 99 ; weave 99 = 51 ; count 6 = 1");
        String knot = "Weaving: 3 a knot of its colour is due";
        run(knot, "start w9w9w2wc1w ; weave 20 = 20 ; count 6 = 0 ; weave 1 = 0 ; count 6 = 3 ; skip = 1 ; weave 1 = 1",
            "pick 20 = 1");
        String full = "Weaving: 4 the cloth is full";
        run(full, Script.FULL_CLOTH, "count 2 = 400 ; count 6 = 0 ; weave 1 = 0 ; count 6 = 4 ; skip = 1 ; weave 1 = 0",
            "count 6 = 4");
        String text = "Weaving: 5 a card that is called has no text";
        run(text, "start wk1w ; weave 9 = 1 ; count 6 = 5 ; count 1 = 1 ; count 5 = 0 ; of 1 4 = 0");
        run(text + " (taken away)", "start wk0 ; blank 0 ; weave 9 = 1 ; count 6 = 5 ; count 1 = 1");
        run(text + " (as it is called, not before)", "start w2k1 ; weave 2 = 2 ; count 6 = 0");
        String deep = "Weaving: 6 the stack has DEPTH cards at a call, or more";
        run(deep, "give 1 k2 ; give 2 w ; start wk1w ; set 0 2 ; weave 9 = 1 ; count 6 = 6 ; count 1 = 2 ; stack 0 0 = 1");
        run(deep, "give 1 k2 ; give 2 w ; start wk1w ; set 0 3 ; weave 9 = 3 ; count 6 = 1 ; count 4 = 3");
        run(deep + " (or more)", "start k0 ; weave 1 = 0 ; count 1 = 5 ; set 0 4 ; weave 1 = 0 ; count 6 = 6 ; set 0 1",
            "weave 1 = 0",
            "count 6 = 6 ; count 1 = 5");
    }

    private static void dueSteps(String sentence, String setting, String rest) {
        String begun = "give 1 c1 ; set 2 " + setting + " ; start " + STEPS_495 + rest;
        run(sentence + ": 499 steps with " + rest, begun + "w ; weave 1 = 1 ; count 6 = 0");
        run(sentence + ": 500 steps with " + rest, begun + "c1w ; weave 1 = 0 ; count 6 = 7 ; weave 1 = 1");
    }

    private static void testReasonOfSteps() {
        String steps = "Weaving: 7 500 steps were done without a pick";
        dueSteps(steps + ", \"c\" is one step", "10", "c1c1c1c1");
        dueSteps(steps + ", \"k\" is one step", "10", "k1k1");
        dueSteps(steps + ", \"s\" is one step (left out)", "10", "s(w)s(k7)s(x9(c1))s(w)");
        dueSteps(steps + ", \"s\" is one step (done)", "99", "s(c1)s(c2)");
        dueSteps(steps + ", \"l\" is one step (done)", "10", "l(c1)l(c2)");
        dueSteps(steps + ", \"l\" is one step (left out)", "99", "l(w)l(k7)l(x9(c1))l(w)");
        dueSteps(steps + ", \"x\" is one for each beginning of its part", "10", "x2(c1)");
        String since = "Weaving: 7 since the latest pick";
        run(since, "start " + STEPS_495 + "c1c1c1c1w" + STEPS_495 + "c1c1c1c1w ; weave 2 = 2 ; count 6 = 0");
        run(since, "start w" + STEPS_495 + "c1c1c1c1c1w ; weave 2 = 1 ; count 6 = 7");
        String asking = "Weaving: 7 since this asking began";
        run(asking, "start " + STEPS_495 + STEPS_495 + "c1c1c1c1c1c1c1c1c1w ; weave 1 = 0 ; count 6 = 7 ; weave 1 = 1",
            "count 6 = 0");
        run(asking, "start " + STEPS_495 + STEPS_495 + "c1c1c1c1c1c1c1c1c1c1w ; weave 1 = 0 ; weave 1 = 0 ; count 6 = 7",
            "weave 1 = 1");
    }

    private static void testOrderOfReasons() {
        String first = "Weaving: the first of these being the reason: ";
        run(first + "2 ahead of 3", "start x9(w9) ; set 1 50 ; weave 99 = 50 ; thread 0 1 = 50 ; count 6 = 2");
        run(first + "2 ahead of 4", "start x9(x9(w9)) ; set 1 99 ; tie 0 99 ; weave 99 ; tie 0 99 ; weave 99 ; tie 0 99",
            "weave 99",
            "tie 0 52 ; weave 99 ; tie 0 1 = 4 ; weave 4 = 4 ; count 2 = 400 ; weave 1 = 0 ; count 6 = 2");
        run(first + "3 ahead of 4", "start x9(x9(w9)) ; set 1 80 ; tie 0 99 ; weave 80 ; tie 0 99 ; weave 80 ; tie 0 99",
            "weave 80",
            "tie 0 99 ; weave 80 ; tie 0 99 ; weave 80 = 80 ; count 2 = 400 ; count 6 = 0 ; weave 1 = 0 ; count 6 = 3");
        run(first + "5 ahead of 6", "start k5 ; set 0 1 ; weave 1 = 0 ; count 6 = 5 ; give 5 w ; weave 1 = 0 ; count 6 = 6");
        run(first + "1 ahead of 7", "start " + STEPS_495 + "c1c1c1c1c1 ; weave 1 = 0 ; count 6 = 1");
        run(first + "2 ahead of 7", "start x6(w9) ; set 1 99 ; weave 50 ; start " + STEPS_495 + "c1c1c1c1c0w ; weave 1 = 0",
            "count 6 = 2");
        run(first + "3 ahead of 7", "start w9 ; set 1 2 ; weave 9 = 2 ; start " + STEPS_495 + "c1c1c1c1c0w ; weave 1 = 0",
            "count 6 = 3");
        run(first + "4 ahead of 7", Script.FULL_CLOTH, "start " + STEPS_495 + "c1c1c1c1c1w ; weave 1 = 0 ; count 6 = 4");
        run(first + "5 ahead of 7", "start " + STEPS_495 + "c1c1c1c1c1k5 ; weave 1 = 0 ; count 6 = 5");
        run(first + "6 ahead of 7", "start " + STEPS_495 + "c1c1c1c1c1k0 ; set 0 1 ; weave 1 = 0 ; count 6 = 6");
        run(first + "7 at a call that could be done", "start " + STEPS_495 + "c1c1c1c1c1k0 ; weave 1 = 0 ; count 6 = 7",
            "count 5 = 0");
        run(first + "7 at a part", "start " + STEPS_495 + "c1c1c1c1c1x2(w) ; weave 1 = 0 ; count 6 = 7 ; stack 0 2 = 28",
            "weave 9 = 2");
    }

    private static void testStopsAheadOfTheStep() {
        String goesOn = "Weaving: it stops ahead of that step, and goes on with it the next time, if it can: ";
        run(goesOn + "2", "start x6(w9)c1w ; set 1 99 ; weave 99 = 50 ; stack 0 2 = 3 ; weave 9 = 0 ; tie 0 9 ; weave 99 = 5",
            "count 6 = 1");
        run(goesOn + "3", "start w9c1w ; set 1 3 ; weave 99 = 3 ; stack 0 2 = 0 ; weave 9 = 0 ; tie 0 1 ; weave 9 = 3 ; tie 0 1",
            "weave 9 = 4");
        run(goesOn + "4", Script.FULL_CLOTH, "weave 9 = 0 ; weave 9 = 0 ; cut = 400 ; weave 9 = 9 ; count 3 = 409");
        run(goesOn + "5", "start wc2k1w ; weave 9 = 1 ; stack 0 2 = 3 ; stack 0 1 = 2 ; weave 9 = 0 ; give 1 w ; weave 9 = 2",
            "cloth = 022");
        run(goesOn + "6", "give 1 c3w ; start wk1w ; set 0 1 ; weave 9 = 1 ; stack 0 2 = 1 ; weave 9 = 0 ; set 0 2 ; weave 9 = 2",
            "cloth = 030");
        run(goesOn + "7", "start " + STEPS_495 + "c1c1c1c1c2c3w ; weave 9 = 0 ; count 6 = 7 ; stack 0 2 = 28 ; stack 0 1 = 2",
            "weave 9 = 1 ; cloth = 3");
    }

    private static void testOldTexts() {
        String old = "Weaving: a card that is changed, or blanked, while it is on the stack is worked on by its old text";
        run(old + " (changed)", "give 1 w3 ; start k1k1 ; weave 1 ; give 1 c2w ; of 1 0 = 3 ; weave 9 = 3 ; cloth = 0002");
        run(old + " (blanked)", "give 1 w3 ; start k1k1 ; weave 1 ; blank 1 ; of 1 0 = 0 ; weave 9 = 2 ; count 6 = 5",
            "cloth = 000");
        run(old + " (the one below)", "give 1 w2 ; start wx2(k1)c4w ; weave 2 ; give 0 w ; stack 1 2 = 4 ; stack 1 3 = 1",
            "weave 9 = 4",
            "cloth = 000004 ; begin 0 = 0 ; weave 9 = 1");
        run(old + " (called again, it has the new one)", "start w2k0 ; weave 1 ; give 0 c5w ; stack 0 2 = 0 ; weave 9 = 2",
            "cloth = 005");
        run(old + " (what else is asked is told of the new one)", "start w9k1 ; weave 1 ; give 0 k2 ; of 0 2 = 4 ; of 0 0 = 2",
            "reaches 0 = 4 ; write 0 = 2 ; stop 0 = 8 ; stop 1 = 5 ; ahead 8 = 0 ; ahead 9 = NONE");
    }

    private static void testConstants() {
        String sentence = "Constants: ";
        Checks.due(sentence + "NO_SUCH", CallingLooms.NO_SUCH, -1);
        Checks.due(sentence + "BAD_VALUE", CallingLooms.BAD_VALUE, -2);
        Checks.due(sentence + "BAD_TEXT", CallingLooms.BAD_TEXT, -3);
        Checks.due(sentence + "TOO_MANY", CallingLooms.TOO_MANY, -4);
        Checks.due(sentence + "NOT_POSSIBLE", CallingLooms.NOT_POSSIBLE, -5);
        Checks.due(sentence + "NONE", CallingLooms.NONE, -6);
        Checks.due(sentence + "DEPTH", CallingLooms.DEPTH, 0);
        Checks.due(sentence + "STRAIN", CallingLooms.STRAIN, 1);
        Checks.due(sentence + "SHORT", CallingLooms.SHORT, 2);
    }
}
