/** A test for each sentence of the promises 1 to 29 that names a boundary case. */
public final class PromiseBoundaries {
    /** Two cards on the stack, the top one in a part; picks of three colours, a reason, knots and settings. */
    private static final String MIDWAY = "give 1 c2x3(w2)k3 ; start c1wc0wk1w ; weave 3 ; tie 2 7 ; set 2 3 ; set 1 4";

    private PromiseBoundaries() {
    }

    private static void run(String sentence, String... rows) {
        Script.run(sentence, rows);
    }

    public static void main(String[] args) {
        testNewObject();
        testSet();
        testCard();
        testBlank();
        testBegin();
        testWeave();
        testSkip();
        testSkipOfParts();
        testTie();
        testCut();
        testOf();
        testOfStates();
        testStack();
        testThread();
        testPick();
        testByEnd();
        testByCloth();
        testWrite();
        testSign();
        testCount();
        testCountOfStates();
        testPicks();
        testPicksAtTheMost();
        testPicksWithTrouble();
        testDepth();
        testReaches();
        testStop();
        testAhead();
        testPut();
        testPutOfTooMany();
        testWipe();
        testFault();
        testUndo();
        testHistory();
        testSave();
        testRestore();
        Checks.end("PromiseBoundaries");
    }

    private static void testNewObject() {
        run("1 new object: a loom without cards",
            "count 0 = 0 ; begin 0 = NOT_POSSIBLE ; blank 9 = NOT_POSSIBLE ; write 0 = NOT_POSSIBLE ; count 1 = 0 ; count 4 = 0");
        run("1 new object: and without cloth",
            "count 2 = 0 ; count 3 = 0 ; pick 0 = NO_SUCH ; byCloth 0 = NO_SUCH ; cut = 0 ; thread 0 4 = 0 ; thread 5 5 = 0");
        run("1 new object: with an empty pad, an empty history and empty slots",
            "count 12 = 0 ; wipe = 0 ; count 13 = 0 ; undo = NOT_POSSIBLE ; restore 0 = NOT_POSSIBLE ; restore 1 = NOT_POSSIBLE");
    }

    private static void testSet() {
        String previous = "2 set: returns the previous value";
        run(previous, "set 0 9 = 5 ; set 0 1 = 9 ; set 0 1 = 1 ; set 0 5 = 1 ; count 9 = 5");
        run(previous, "set 1 99 = 20 ; set 1 2 = 99 ; set 1 2 = 2 ; set 1 20 = 2 ; count 10 = 20");
        run(previous, "set 2 99 = 10 ; set 2 0 = 99 ; set 2 0 = 0 ; set 2 10 = 0 ; count 11 = 10");
        run(previous + " (of that setting alone)", "set 0 2 = 5 ; set 1 3 = 20 ; set 2 4 = 10 ; count 9 = 2 ; count 10 = 3",
            "count 11 = 4");
        run("2 set: BAD_VALUE if there is no such setting",
            "set -1 5 = BAD_VALUE ; set 3 5 = BAD_VALUE ; set MIN 5 = BAD_VALUE ; set MAX 5 = BAD_VALUE ; count 13 = 0");
        String range = "2 set: BAD_VALUE if the value is out of its range";
        run(range, "set 0 0 = BAD_VALUE ; set 0 10 = BAD_VALUE ; set 0 -1 = BAD_VALUE ; set 0 MIN = BAD_VALUE",
            "set 0 MAX = BAD_VALUE");
        run(range, "set 1 1 = BAD_VALUE ; set 1 100 = BAD_VALUE ; set 1 0 = BAD_VALUE ; set 1 MIN = BAD_VALUE",
            "set 1 MAX = BAD_VALUE");
        run(range, "set 2 -1 = BAD_VALUE ; set 2 100 = BAD_VALUE ; set 2 MIN = BAD_VALUE ; set 2 MAX = BAD_VALUE");
    }

    private static void testCard() {
        run("3 card: a card gets the text of the pad, in place of the one that it has",
            "type wc3 ; card 9 = 2 ; type k0 ; card 9 = 1 ; of 9 0 = 2 ; write 9 = 2 ; pad = k0 ; count 0 = 512");
        run("3 card: the pad is emptied", "type w9w9 ; card 0 = 2 ; count 12 = 0 ; sign 0 = NO_SUCH ; fault = 0",
            "card 0 = BAD_TEXT");
        String steps = "3 card: returns how many steps it has, those in parts, too";
        run(steps, "type w ; card 0 = 1 ; type w9c0 ; card 0 = 2 ; type x2(s(l(w))) ; card 0 = 4 ; type s(ww)x9(k1w9)w",
            "card 0 = 7");
        run(steps + " (80 at most)", "often 10 put 0x7777777777777777 ; card 0 = 80 ; of 0 1 = 80");
        run("3 card: NO_SUCH if there is no such card",
            "type w ; card 10 = NO_SUCH ; card -1 = NO_SUCH ; card MIN = NO_SUCH ; card MAX = NO_SUCH ; pad = w ; card 9 = 1",
            "count 0 = 512");
        run("3 card: BAD_TEXT if the pad has a fault",
            "card 0 = BAD_TEXT ; type s(w ; card 0 = BAD_TEXT ; pad = s(w ; type ) ; card 0 = 2 ; type w1 ; card 0 = BAD_TEXT",
            "pad = w1 ; write 0 = 4 ; pad = s(w)");
    }

    private static void testBlank() {
        run("4 blank: takes the text of a card away",
            "give 9 wk0 ; blank 9 = 0 ; count 0 = 0 ; of 9 0 = 0 ; of 9 1 = 0 ; of 9 2 = 0 ; of 0 3 = 0",
            "begin 9 = NOT_POSSIBLE");
        String callers = "4 blank: returns the cards that call it directly then, as a set";
        run(callers + " (none)", "give 0 w ; give 1 w ; blank 0 = 0");
        run(callers + " (not itself, as it has no text then)", "give 0 k0 ; of 0 3 = 1 ; blank 0 = 0 ; of 0 3 = 0");
        run(callers + " (directly)", "give 0 w ; give 1 k0 ; give 2 k1 ; give 9 x2(s(l(k0))) ; blank 0 = 514 ; blank 1 = 4");
        run(callers + " (all others)", "give 0 k9k0 ; give 1 k9 ; give 2 k9 ; give 3 k9 ; give 4 k9 ; give 5 k9 ; give 6 k9",
            "give 7 k9",
            "give 8 k9 ; give 9 k9 ; of 9 3 = 1023 ; blank 9 = 511 ; blank 8 = 0");
        run("4 blank: NO_SUCH if there is no such card",
            "blank 10 = NO_SUCH ; blank -1 = NO_SUCH ; blank MIN = NO_SUCH ; blank MAX = NO_SUCH ; give 9 w ; blank 9 = 0");
        run("4 blank: NOT_POSSIBLE if it has no text",
            "blank 0 = NOT_POSSIBLE ; blank 9 = NOT_POSSIBLE ; give 9 w ; blank 0 = NOT_POSSIBLE ; blank 9 = 0",
            "blank 9 = NOT_POSSIBLE");
    }

    private static void testBegin() {
        run("5 begin: a weaving begins in place of the one that is going on; the cloth stays",
            "give 9 c2w ; start wk0 ; weave 2 = 2 ; begin 9 = 2 ; count 1 = 1 ; stack 0 0 = 9 ; stack 1 0 = NO_SUCH",
            "count 2 = 2",
            "weave 9 = 1 ; cloth = 002 ; count 6 = 1");
        String stack = "5 begin: returns how many cards were on the stack";
        run(stack, "give 0 wk0 ; set 0 9 ; begin 0 = 0 ; begin 0 = 1 ; weave 1 ; begin 0 = 1 ; weave 9 = 9 ; begin 0 = 9",
            "begin 0 = 1");
        run(stack + " (none, if it is over)", "start w ; weave 1 = 1 ; begin 0 = 0 ; skip = 0 ; begin 0 = 0");
        run("5 begin: NO_SUCH if there is no such card",
            "start w ; begin 10 = NO_SUCH ; begin -1 = NO_SUCH ; begin MIN = NO_SUCH ; begin MAX = NO_SUCH ; count 1 = 1",
            "give 9 w ; begin 9 = 1");
        run("5 begin: NOT_POSSIBLE if it has no text",
            "begin 0 = NOT_POSSIBLE ; begin 9 = NOT_POSSIBLE ; start w ; begin 9 = NOT_POSSIBLE ; blank 0 = 0",
            "begin 0 = NOT_POSSIBLE",
            "count 1 = 1 ; of 0 4 = 1 ; of 9 4 = 0");
    }

    private static void testWeave() {
        String returned = "6 weave: returns how many are woven";
        run(returned, "start w9 ; weave 1 = 1 ; weave 8 = 8 ; count 6 = 0 ; weave 1 = 0 ; count 6 = 1");
        run(returned + " (fewer, if it stops)", "start w9 ; weave 10 = 9 ; count 6 = 1 ; count 2 = 9 ; count 3 = 9");
        run(returned + " (none, if it stops at once)", "weave 99 = 0 ; count 6 = 1 ; start k1w ; weave 99 = 0 ; count 6 = 5");
        run(returned + " (99)", "start x9(x9(w9)) ; set 1 99 ; tie 0 99 ; weave 99 = 99 ; count 6 = 0");
        String range = "6 weave: BAD_VALUE if picks is out of range (1 to 99)";
        run(range, "start w9 ; weave 0 = BAD_VALUE ; weave -1 = BAD_VALUE ; weave 100 = BAD_VALUE ; weave MIN = BAD_VALUE",
            "weave MAX = BAD_VALUE ; count 2 = 0 ; count 13 = 2 ; weave 1 = 1 ; weave 99 = 8");
    }

    private static void testSkip() {
        run("7 skip: one pick of a \"w\"",
            "start w3c1w ; skip = 1 ; stack 0 2 = 0 ; stop 0 = 3 ; weave 1 = 1 ; skip = 1 ; stack 0 2 = 2 ; stop 0 = 1",
            "count 3 = 1");
        run("7 skip: one pick of a \"w\" (it takes no thread, and is not woven)",
            "start w9 ; skip = 1 ; thread 0 0 = 50 ; thread 0 1 = 0 ; thread 0 3 = 0 ; count 2 = 0 ; count 3 = 0");
        run("7 skip: a \"c\"", "start c1c2w ; skip = 1 ; stack 0 2 = 2 ; stack 0 1 = 0 ; skip = 1 ; weave 1 ; cloth = 0");
        run("7 skip: a call", "give 1 c2w ; start k1k5w ; skip = 1 ; stack 0 2 = 2 ; count 5 = 0 ; of 1 4 = 0",
            "skip = 1 ; stack 0 2 = 4 ; weave 9 = 1 ; cloth = 0 ; count 4 = 1");
        run("7 skip: a call (at which the stack is full)", "start k0w ; set 0 1 ; weave 1 = 0 ; count 6 = 6 ; skip = 1",
            "weave 1 = 1");
        String then = "7 skip: returns how many cards are on the stack then";
        run(then, "start w ; skip = 0 ; count 1 = 0");
        run(then, "give 1 w2 ; start k1w ; weave 1 ; count 1 = 2 ; skip = 1 ; stack 0 2 = 2 ; skip = 0");
        run(then + " (all that are at their end have left)", "give 1 s(w)wk2 ; give 2 c1w2 ; start x2(k1) ; weave 2 = 2",
            "count 1 = 3",
            "skip = 1 ; stack 0 0 = 0 ; stack 0 2 = 0 ; stack 0 3 = 0 ; skip = 0");
        run(then + " (9)", "start k0 ; set 0 9 ; weave 1 = 0 ; count 1 = 9 ; skip = 0");
        run("7 skip: NOT_POSSIBLE if the weaving is over",
            "skip = NOT_POSSIBLE ; start w ; weave 1 ; skip = NOT_POSSIBLE ; begin 0 ; skip = 0 ; skip = NOT_POSSIBLE",
            "count 13 = 5");
    }

    private static void testSkipOfParts() {
        String part = "7 skip: a part with all the times that are left";
        run(part, "start x9(w)w ; skip = 1 ; stack 0 2 = 5 ; weave 9 = 1");
        run(part + " (some are done)", "start x3(w)c1w ; weave 1 ; stack 0 2 = 0 ; skip = 1 ; stack 0 2 = 5 ; weave 9 = 1",
            "cloth = 01");
        run(part + " (one is left)", "start x3(w)c1w ; weave 2 ; stack 0 2 = 0 ; skip = 1 ; stack 0 2 = 5 ; weave 9 = 1",
            "cloth = 001");
        run(part + " (of an \"s\", of an \"l\")", "start s(w)l(w)w ; skip = 1 ; stack 0 2 = 4 ; skip = 1 ; stack 0 2 = 8",
            "weave 9 = 1");
        run(part + " (with parts in it)", "start x2(x3(w)s(l(w)))w ; skip = 1 ; stack 0 2 = 16");
        run(part + " (in a part)", "start x2(x3(c1w))w ; weave 1 ; stack 0 2 = 3 ; skip = 1 ; stack 0 2 = 0 ; stack 0 3 = 0",
            "weave 99 = 4 ; cloth = 11111");
        run(part + " (the last step of a part is no part)", "start x2(wc1)w ; weave 1 ; stack 0 2 = 4 ; skip = 1 ; stack 0 2 = 0",
            "weave 9 = 2");
        run(part + " (the last one of a card)", "start wx2(w) ; weave 1 ; skip = 0 ; stop 1 = 1");
    }

    private static void testTie() {
        run("8 tie: ties more thread to that of a colour, with a knot",
            "start w9 ; weave 9 ; tie 0 1 = 42 ; thread 0 0 = 42 ; thread 0 1 = 0 ; thread 0 2 = 1 ; thread 1 0 = 50",
            "thread 1 2 = 0",
            "tie 0 99 = 141 ; thread 0 2 = 2 ; thread 0 3 = 9 ; count 7 = 2");
        String most = "8 tie: 999 at most: what is above is lost";
        run(most, "often 9 tie 5 99 ; thread 5 0 = 941 ; tie 5 57 = 998 ; tie 5 1 = 999 ; tie 5 1 = 999 ; thread 5 0 = 999",
            "thread 5 2 = 12");
        run(most, "often 9 tie 0 99 ; tie 0 99 = 999 ; start w ; weave 1 ; thread 0 0 = 998 ; tie 0 2 = 999");
        run("8 tie: NO_SUCH if there is no such colour",
            "tie -1 9 = NO_SUCH ; tie 6 9 = NO_SUCH ; tie MIN 9 = NO_SUCH ; tie MAX 9 = NO_SUCH ; tie 6 0 = NO_SUCH",
            "tie 5 9 = 59 ; tie 0 9 = 59");
        run("8 tie: BAD_VALUE if ells is out of range (1 to 99)",
            "tie 0 0 = BAD_VALUE ; tie 0 100 = BAD_VALUE ; tie 0 -1 = BAD_VALUE ; tie 0 MIN = BAD_VALUE ; tie 0 MAX = BAD_VALUE",
            "count 7 = 0 ; tie 0 1 = 51 ; tie 0 99 = 150");
    }

    private static void testCut() {
        run("9 cut: the cloth has no picks any more",
            "start w2c1w ; weave 9 ; cut = 3 ; count 2 = 0 ; pick 0 = NO_SUCH ; thread 0 4 = 0 ; thread 0 5 = 0",
            "byCloth 0 = NO_SUCH",
            "thread 0 3 = 2 ; thread 0 1 = 2 ; count 3 = 3");
        run("9 cut: returns how many it had (none)", "cut = 0 ; count 13 = 1 ; start w ; weave 1 ; cut = 1 ; cut = 0",
            "count 13 = 6");
        run("9 cut: returns how many it had (400)", Script.FULL_CLOTH, "cut = 400 ; cut = 0 ; weave 1 = 1 ; cut = 1");
    }

    private static void testOf() {
        run("10 of: 0 the length of its text (0 without)",
            "of 0 0 = 0 ; give 0 w ; of 0 0 = 1 ; blank 0 ; of 0 0 = 0 ; often 10 put 0x7777777777777777 ; card 9 = 80",
            "of 9 0 = 80");
        run("10 of: 1 its steps, those in parts, too", "of 0 1 = 0 ; give 0 w9 ; of 0 1 = 1 ; give 0 x2(s(l(wk0))) ; of 0 1 = 5");
        run("10 of: 2 cards that it calls directly, as a set",
            "of 0 2 = 0 ; give 0 w ; of 0 2 = 0 ; give 0 k0k9k9s(l(k1)) ; of 0 2 = 515 ; give 1 k5 ; of 0 2 = 515 ; of 1 2 = 32",
            "give 2 k0k1k2k3k4k5k6k7k8k9 ; of 2 2 = 1023");
        run("10 of: 3 cards that call it directly, as a set",
            "of 9 3 = 0 ; give 0 k9 ; give 1 k0 ; give 9 s(k9) ; of 9 3 = 513 ; of 0 3 = 2 ; blank 0 ; of 9 3 = 512 ; of 0 3 = 2",
            "of 1 3 = 0");
        run("10 of: 6 how deep its brackets are nested",
            "of 0 6 = 0 ; give 0 w ; of 0 6 = 0 ; give 0 s(w)l(w) ; of 0 6 = 1 ; give 0 x2(x2(w))w ; of 0 6 = 2",
            "give 0 s(s(s(w))) ; of 0 6 = 3",
            "give 1 k0 ; of 1 6 = 0");
        run("10 of: NO_SUCH if there is no such card",
            "of -1 0 = NO_SUCH ; of 10 0 = NO_SUCH ; of MIN 0 = NO_SUCH ; of MAX 0 = NO_SUCH ; of 10 7 = NO_SUCH ; of 9 0 = 0");
        run("10 of: BAD_VALUE if what is out of range",
            "of 0 -1 = BAD_VALUE ; of 0 7 = BAD_VALUE ; of 9 MIN = BAD_VALUE ; of 9 MAX = BAD_VALUE ; give 0 w",
            "of 0 7 = BAD_VALUE");
    }

    private static void testOfStates() {
        String begun = "10 of: 4 how often it was begun or called so far";
        run(begun, "of 1 4 = 0 ; give 1 w ; of 1 4 = 0 ; start k1k1wk1 ; of 0 4 = 1 ; of 1 4 = 0 ; weave 1 ; of 1 4 = 1",
            "weave 1 ; of 1 4 = 2",
            "weave 1 ; skip = 0 ; of 1 4 = 2 ; begin 1 ; of 1 4 = 3 ; begin 1 ; of 1 4 = 4 ; blank 1 ; of 1 4 = 4 ; of 0 4 = 1");
        run(begun + " (a call at which it stops is none)", "start k1 ; weave 1 = 0 ; of 1 4 = 0 ; give 1 w ; set 0 1",
            "weave 1 = 0 ; of 1 4 = 0");
        String stack = "10 of: 5 how often it is on the stack";
        run(stack, "of 0 5 = 0 ; start wk0 ; of 0 5 = 1 ; weave 2 ; of 0 5 = 2 ; weave 3 ; of 0 5 = 5 ; set 0 9 ; weave 9 = 4",
            "of 0 5 = 9",
            "of 1 5 = 0 ; blank 0 ; of 0 5 = 9 ; skip = 0 ; of 0 5 = 0");
        run(stack + " (among others)", "give 1 wk0 ; start k1 ; weave 1 ; of 0 5 = 1 ; of 1 5 = 1 ; weave 1 ; of 0 5 = 2",
            "of 1 5 = 2 ; of 2 5 = 0");
    }

    private static void testStack() {
        String twoCards = "give 3 l(l(l(c1w2))) ; start c5x2(wk3)w ; weave 2 ; ";
        run("11 stack: rank 0 for the one on top", twoCards + "stack 0 0 = 3 ; stack 1 0 = 0");
        run("11 stack: 1 its colour", twoCards + "stack 0 1 = 1 ; stack 1 1 = 5");
        run("11 stack: 2 the index of the step that is next, or, for cards below, the call", twoCards + "stack 0 2 = 8",
            "stack 1 2 = 6");
        run("11 stack: 2 the index of the step (the first one, the last one)", "start ww ; stack 0 2 = 0 ; weave 1",
            "stack 0 2 = 1",
            "often 10 put 0x7777777777777777 ; card 1 = 80 ; begin 1 ; set 1 99 ; tie 0 99 ; weave 79 ; stack 0 2 = 79");
        run("11 stack: 3 in how many parts that is",
            twoCards + "stack 0 3 = 3 ; stack 1 3 = 1 ; weave 1 ; stack 0 2 = 2 ; stack 0 3 = 0",
            "weave 3 ; stack 0 2 = 9 ; stack 0 3 = 0");
        run("11 stack: 3 in how many parts that is (9 cards in 3 parts each)",
            "start x2(x2(x2(wk0))) ; set 0 9 ; weave 99 = 9 ; stack 0 2 = 10 ; stack 0 3 = 3 ; stack 8 2 = 10 ; stack 8 3 = 3",
            "skip = 9 ; stack 0 2 = 6 ; stack 0 3 = 2 ; stack 1 2 = 10 ; stack 1 3 = 3 ; stack 7 2 = 10 ; stack 8 3 = 3",
            "weave 9 = 1 ; skip = 9 ; stack 0 2 = 3 ; stack 0 3 = 1 ; skip = 9 ; stack 0 2 = 0 ; stack 0 3 = 0",
            "skip = 8 ; stack 0 2 = 6 ; stack 0 3 = 2 ; stack 7 2 = 10 ; stack 7 3 = 3");
        run("11 stack: NO_SUCH if there are not so many",
            "stack 0 0 = NO_SUCH ; stack 0 4 = NO_SUCH ; start wk0 ; stack 0 0 = 0 ; stack 1 0 = NO_SUCH ; stack -1 0 = NO_SUCH",
            "stack MIN 0 = NO_SUCH ; stack MAX 0 = NO_SUCH ; set 0 9 ; weave 9 = 9 ; stack 8 0 = 0 ; stack 8 2 = 1",
            "stack 9 0 = NO_SUCH",
            "skip = 0 ; stack 0 0 = NO_SUCH");
        run("11 stack: BAD_VALUE if what is out of range",
            "start w ; stack 0 -1 = BAD_VALUE ; stack 0 4 = BAD_VALUE ; stack 0 MIN = BAD_VALUE ; stack 0 MAX = BAD_VALUE",
            "stack 1 4 = NO_SUCH");
    }

    private static void testThread() {
        run("12 thread: 0 the ells of its thread", "thread 5 0 = 50 ; start c5w9 ; weave 9 ; thread 5 0 = 41 ; tie 5 99",
            "thread 5 0 = 140",
            "thread 0 0 = 50 ; set 1 99 ; start x6(w9) ; weave 99 = 50 ; thread 0 0 = 0");
        run("12 thread: 1 its strain", "thread 5 1 = 0 ; start c5w9 ; weave 9 ; thread 5 1 = 9 ; cut ; thread 5 1 = 9 ; tie 5 1",
            "thread 5 1 = 0");
        run("12 thread: 2 its knots", "thread 5 2 = 0 ; tie 5 1 ; tie 5 1 ; thread 5 2 = 2 ; thread 4 2 = 0 ; tie 5 0",
            "thread 5 2 = 2");
        run("12 thread: 3 picks woven with it so far", "thread 0 3 = 0 ; start w3c1w ; weave 9 ; thread 0 3 = 3 ; cut ; tie 0 1",
            "thread 0 3 = 3",
            "thread 1 3 = 1 ; begin 0 ; weave 1 ; thread 0 3 = 4");
        run("12 thread: 4 picks of the cloth with it", "thread 0 4 = 0 ; start w3c1wc0w ; weave 9 ; thread 0 4 = 4",
            "thread 1 4 = 1 ; cut",
            "thread 0 4 = 0 ; begin 0 ; weave 1 ; thread 0 4 = 1");
        String row = "12 thread: 5 the longest row of picks of the cloth with it, one behind the other";
        run(row + " (none)", "thread 0 5 = 0 ; start w ; weave 1 ; thread 0 5 = 1 ; thread 1 5 = 0 ; cut ; thread 0 5 = 0");
        run(row + " (the first one)", "start w3c1w2c0w2 ; weave 9 ; thread 0 5 = 3 ; thread 1 5 = 2 ; thread 0 4 = 5");
        run(row + " (the last one)", "start w2c1wc0w3 ; weave 9 ; thread 0 5 = 3 ; thread 1 5 = 1");
        run(row + " (in the middle, of as many)", "start wc1wc0w2c1wc0w2c1w ; weave 9 ; thread 0 5 = 2 ; thread 1 5 = 1",
            "thread 0 4 = 5");
        run(row + " (all of it)", Script.FULL_CLOTH, "thread 0 5 = 400 ; thread 0 4 = 400 ; thread 0 3 = 400");
        run("12 thread: NO_SUCH if there is no such colour",
            "thread -1 0 = NO_SUCH ; thread 6 0 = NO_SUCH ; thread MIN 0 = NO_SUCH ; thread MAX 0 = NO_SUCH",
            "thread 6 6 = NO_SUCH ; thread 5 0 = 50");
        run("12 thread: BAD_VALUE if what is out of range",
            "thread 0 -1 = BAD_VALUE ; thread 0 6 = BAD_VALUE ; thread 5 MIN = BAD_VALUE ; thread 5 MAX = BAD_VALUE",
            "thread 5 5 = 0");
    }

    private static void testPick() {
        run("13 pick: 0 for the first one", "start c5wc4w ; weave 2 ; pick 0 = 5 ; pick 1 = 4");
        String many = "13 pick: NO_SUCH if there are not so many";
        run(many, "pick 0 = NO_SUCH ; start w2 ; weave 1 ; pick 0 = 0 ; pick 1 = NO_SUCH ; pick -1 = NO_SUCH ; weave 1",
            "pick 1 = 0 ; pick 2 = NO_SUCH",
            "pick MIN = NO_SUCH ; pick MAX = NO_SUCH ; cut ; pick 0 = NO_SUCH");
        run(many + " (400)", Script.FULL_CLOTH, "pick 399 = 0 ; pick 400 = NO_SUCH");
    }

    private static void testByEnd() {
        run("14 byEnd: the fewest first",
            "start c3w3c5w2c4w ; weave 9 ; tie 0 2 ; tie 1 1 ; byEnd 0 = 3 ; byEnd 1 = 5 ; byEnd 2 = 4 ; byEnd 3 = 2",
            "byEnd 4 = 1 ; byEnd 5 = 0");
        run("14 byEnd: of as many the lower one", "byEnd 0 = 0 ; byEnd 1 = 1 ; byEnd 2 = 2 ; byEnd 3 = 3 ; byEnd 4 = 4",
            "byEnd 5 = 5",
            "tie 0 1 ; tie 3 1 ; byEnd 0 = 1 ; byEnd 1 = 2 ; byEnd 2 = 4 ; byEnd 3 = 5 ; byEnd 4 = 0 ; byEnd 5 = 3");
        run("14 byEnd: NO_SUCH if rank is out of range (0 to 5)",
            "byEnd -1 = NO_SUCH ; byEnd 6 = NO_SUCH ; byEnd MIN = NO_SUCH ; byEnd MAX = NO_SUCH ; byEnd 5 = 5");
    }

    private static void testByCloth() {
        run("15 byCloth: the most first", "start c1wc5w3c3w2 ; weave 9 ; byCloth 0 = 5 ; byCloth 1 = 3 ; byCloth 2 = 1",
            "byCloth 3 = NO_SUCH");
        run("15 byCloth: of as many the lower one", "start c5wc3wc4w2c0wc2w2 ; weave 9 ; byCloth 0 = 2 ; byCloth 1 = 4",
            "byCloth 2 = 0 ; byCloth 3 = 3",
            "byCloth 4 = 5 ; byCloth 5 = NO_SUCH");
        run("15 byCloth: only colours with a pick (of the cloth)",
            "start c4w ; weave 1 ; byCloth 0 = 4 ; byCloth 1 = NO_SUCH ; cut ; byCloth 0 = NO_SUCH ; thread 4 3 = 1");
        run("15 byCloth: NO_SUCH if there are not so many",
            "byCloth 0 = NO_SUCH ; start wc1wc2wc3wc4wc5w ; weave 5 ; byCloth 4 = 4 ; byCloth 5 = NO_SUCH ; weave 1",
            "byCloth 5 = 5",
            "byCloth 6 = NO_SUCH ; byCloth -1 = NO_SUCH ; byCloth MIN = NO_SUCH ; byCloth MAX = NO_SUCH");
    }

    private static void testWrite() {
        run("16 write: writes the text of a card into the pad, in place of what was there; returns its length",
            "give 9 x2(w) ; type something ; write 9 = 5 ; pad = x2(w) ; count 12 = 5 ; sign 5 = NO_SUCH ; give 0 w",
            "write 9 = 5 ; write 0 = 1 ; pad = w");
        run("16 write: returns its length (80, into a pad that is full)",
            "often 10 put 0x7777777777777777 ; card 0 = 80 ; often 10 put 0x6b6b6b6b6b6b6b6b ; write 0 = 80 ; sign 0 = 119",
            "sign 79 = 119 ; fault = NONE");
        run("16 write: this is not a change", "give 0 w ; write 0 = 1 ; count 13 = 1 ; of 0 0 = 1 ; undo = 0 ; pad = w");
        run("16 write: NO_SUCH if there is no such card",
            "type ab ; write 10 = NO_SUCH ; write -1 = NO_SUCH ; write MIN = NO_SUCH ; write MAX = NO_SUCH ; pad = ab ; give 9 w",
            "write 9 = 1");
        run("16 write: NOT_POSSIBLE if it has no text",
            "type ab ; write 0 = NOT_POSSIBLE ; write 9 = NOT_POSSIBLE ; pad = ab ; start w ; blank 0 ; count 1 = 1",
            "write 0 = NOT_POSSIBLE ; count 12 = 0");
    }

    private static void testSign() {
        run("17 sign: the code of a character", "type !~w ; sign 0 = 33 ; sign 1 = 126 ; sign 2 = 119");
        String place = "17 sign: NO_SUCH if there is no such place";
        run(place, "sign 0 = NO_SUCH ; type ab ; sign 1 = 98 ; sign 2 = NO_SUCH ; sign -1 = NO_SUCH ; sign MIN = NO_SUCH",
            "sign MAX = NO_SUCH",
            "wipe = 2 ; sign 0 = NO_SUCH");
        run(place + " (80)", "often 10 put 0x7777777777777778 ; sign 79 = 120 ; sign 80 = NO_SUCH");
    }

    private static void testCount() {
        run("18 count: BAD_VALUE if what is out of range",
            "count -1 = BAD_VALUE ; count 14 = BAD_VALUE ; count MIN = BAD_VALUE ; count MAX = BAD_VALUE ; count 0 = 0",
            "count 13 = 0");
        run("18 count: 0 cards with a text, as a set", "count 0 = 0 ; give 0 w ; count 0 = 1 ; give 9 k5 ; count 0 = 513",
            "blank 0 ; count 0 = 512");
        run("18 count: 1 cards on the stack", "count 1 = 0 ; start wk0 ; count 1 = 1 ; set 0 9 ; weave 9 ; count 1 = 9 ; skip",
            "count 1 = 0");
        run("18 count: 2 picks of the cloth", "count 2 = 0 ; start w9 ; weave 1 ; count 2 = 1 ; weave 9 = 8 ; count 2 = 9 ; cut",
            "count 2 = 0");
        run("18 count: 3 picks woven so far", "count 3 = 0 ; start w2c1w2c5w2 ; weave 9 ; count 3 = 6 ; cut ; count 3 = 6",
            "begin 0 ; weave 1 ; count 3 = 7");
        run("18 count: 7 knots so far", "count 7 = 0 ; tie 0 1 ; tie 5 1 ; tie 5 99 ; count 7 = 3 ; tie 5 100 ; count 7 = 3");
        run("18 count: 8 ells of all threads", "count 8 = 300 ; start wc5w ; weave 2 ; count 8 = 298 ; tie 3 99 ; count 8 = 397");
        run("18 count: 9 to 11 the settings", "count 9 = 5 ; count 10 = 20 ; count 11 = 10 ; set 0 1 ; set 1 2 ; set 2 0",
            "count 9 = 1 ; count 10 = 2 ; count 11 = 0");
        run("18 count: 12 the length of the pad", "count 12 = 0 ; type w ; count 12 = 1 ; often 9 put 0x7777777777777777",
            "type kkkkkkk ; count 12 = 80",
            "put 0x77 = TOO_MANY ; count 12 = 80 ; wipe ; count 12 = 0");
        run("18 count: 13 how many changes can be undone", "count 13 = 0 ; undo = NOT_POSSIBLE ; cut ; count 13 = 1",
            "often 5 cut ; count 13 = 6 ; cut",
            "count 13 = 6 ; undo = 5 ; count 13 = 5");
    }

    private static void testCountOfStates() {
        String most = "18 count: 4 the most cards that were on the stack so far";
        run(most, "count 4 = 0 ; give 0 k1w ; give 1 k2w ; give 2 w ; count 4 = 0 ; begin 2 ; count 4 = 1 ; weave 9",
            "count 4 = 1 ; begin 1 ; weave 1",
            "count 4 = 2 ; weave 9 ; count 1 = 0 ; count 4 = 2 ; begin 0 ; weave 9 = 3 ; count 4 = 3 ; begin 2 ; count 4 = 3");
        run(most + " (9)", "start k0 ; set 0 9 ; weave 1 = 0 ; count 4 = 9 ; set 0 1 ; skip = 0 ; count 4 = 9");
        run(most + " (a call at which it stops does not count)", "start k0 ; set 0 1 ; weave 1 = 0 ; count 4 = 1");
        String calls = "18 count: 5 calls so far";
        run(calls, "count 5 = 0 ; give 1 w ; start k1k1k1k1 ; count 5 = 0 ; weave 1 ; count 5 = 1 ; weave 1 ; skip ; count 5 = 2",
            "weave 1 = 1",
            "count 5 = 3 ; begin 0 ; count 5 = 3 ; begin 1 ; count 5 = 3");
        run(calls + " (those at which it stops are none)", "start k1 ; weave 1 = 0 ; count 5 = 0 ; give 1 w ; set 0 1",
            "weave 1 = 0 ; count 5 = 0");
        String reason = "18 count: 6 the reason for which the latest weave() stopped";
        run(reason + " (0 if there was none)", "count 6 = 0 ; start w ; count 6 = 0 ; skip ; count 6 = 0 ; stop 1 = 1",
            "ahead 9 = NONE ; count 6 = 0");
        run(reason + " (0 if all picks were woven)", "weave 1 = 0 ; count 6 = 1 ; start w ; count 6 = 1 ; weave 1 = 1",
            "count 6 = 0 ; weave 1 = 0 ; count 6 = 1");
        run(reason + " (it stays until the next one)", "start k1 ; weave 1 = 0 ; count 6 = 5 ; skip = 0 ; begin 0 ; cut",
            "tie 0 1 ; weave 0 = BAD_VALUE ; count 6 = 5");
    }

    private static void testPicks() {
        run("19 picks: with all that it calls", "give 0 wk1x3(k1) ; give 1 w2k9 ; give 9 w ; picks 0 NONE = 13",
            "picks 1 NONE = 3 ; picks 9 NONE = 1");
        String notShort = "19 picks: if no thread is short";
        run(notShort, "give 0 s(w9)l(w)l(s(w9)) ; picks 0 NONE = 1 ; set 2 99 ; picks 0 NONE = 1 ; set 2 0 ; picks 0 NONE = 1");
        run(notShort + " (a \"c\" in a part that is left out)", "give 0 s(c1)wl(c2)w ; picks 0 0 = 1 ; picks 0 1 = 0",
            "picks 0 2 = 1");
        run("19 picks: and nothing stops it", "give 0 x9(x9(w9)) ; set 0 1 ; set 1 2 ; picks 0 NONE = 729 ; give 1 k0",
            "picks 1 0 = 729",
            "give 2 x9(x9(x9(c1)))w ; picks 2 1 = 1 ; begin 1 ; weave 9 = 0 ; picks 1 0 = 729");
        run("19 picks: picks of this colour alone, or NONE: all", "give 0 wc1w2c2w3c3w4c4w5c5w6 ; picks 0 0 = 1 ; picks 0 1 = 2",
            "picks 0 2 = 3 ; picks 0 3 = 4",
            "picks 0 4 = 5 ; picks 0 5 = 6 ; picks 0 NONE = 21");
        String zero = "19 picks: the card begins with the colour 0";
        run(zero, "give 0 w ; give 1 c5k0 ; picks 0 0 = 1 ; picks 0 5 = 0 ; picks 1 0 = 0 ; picks 1 5 = 1");
        run(zero + " (not with that of the stack)", "give 1 w ; start c3k1 ; weave 1 ; begin 0 ; skip ; picks 1 0 = 1",
            "picks 1 3 = 0 ; picks 0 3 = 1");
        run("19 picks: (the colour of the one below is its own)", "give 0 k1wc1k1w ; give 1 wc4w ; picks 0 0 = 2 ; picks 0 1 = 2",
            "picks 0 4 = 2");
        run("19 picks: (a part begins with the colour that it ended with)", "give 0 x3(wc1wc2)w ; picks 0 0 = 1 ; picks 0 1 = 3",
            "picks 0 2 = 3",
            "give 1 x2(wx2(wc3)s(c4))l(c5)w ; picks 1 0 = 2 ; picks 1 3 = 4 ; picks 1 5 = 1 ; picks 1 NONE = 7",
            "give 2 x2(wx2(w)c3) ; picks 2 0 = 3 ; picks 2 3 = 3 ; give 3 x2(wl(c2)) ; picks 3 0 = 1 ; picks 3 2 = 1",
            "give 4 x2(wl(x2(c1)c2)x2(wc4)l(c5)) ; picks 4 0 = 1 ; picks 4 2 = 2 ; picks 4 4 = 2 ; picks 4 5 = 1 ; picks 4 1 = 0");
        run("19 picks: (parts in parts)", "give 0 l(l(l(w2)))x2(x2(x2(w))) ; picks 0 NONE = 10",
            "give 1 l(x2(l(w))s(w)) ; picks 1 0 = 2");
        run("19 picks: (80 steps)", "often 10 put 0x7777777777777777 ; card 0 = 80 ; picks 0 NONE = 80 ; picks 0 0 = 80");
        run("19 picks: returns how many (0)", "give 0 c1 ; give 1 k0s(w) ; picks 0 NONE = 0 ; picks 0 1 = 0 ; picks 1 NONE = 0");
    }

    private static void testPicksAtTheMost() {
        String most = "19 picks: 1000000 if there are more";
        run(most + " (1000000)", "give 9 x5(x5(x5(w8))) ; picks 9 0 = 1000 ; give 8 x5(x5(x5(k9k9k9k9k9k9k9k9)))",
            "picks 8 0 = 1000000",
            "give 7 k8w ; picks 7 NONE = 1000000 ; give 7 k8c1w ; picks 7 0 = 1000000 ; picks 7 1 = 1 ; picks 7 NONE = 1000000");
        run(most + " (999999)", "give 9 x5(x5(x5(w8))) ; give 8 x5(x5(x5(k9k9k9k9k9k9k9)))x5(x5(x4(k9)))x8(x3(k9))k7",
            "give 7 x9(x9(x9(w)))x9(x9(w3))w9w9w9 ; picks 7 0 = 999 ; picks 8 0 = 999999 ; give 6 k8w ; picks 6 0 = 1000000");
        run(most + " (900 times so many)", "give 9 x9(x9(x9(w9))) ; give 8 x9(x9(x9(k9))) ; give 7 x9(x9(x9(k8)))",
            "give 6 x9(x9(x9(k7)))",
            "picks 9 NONE = 6561 ; picks 8 NONE = 1000000 ; picks 7 NONE = 1000000 ; picks 6 0 = 1000000 ; picks 6 5 = 0");
        run(most + " (in a row)", "give 9 x9(x9(x9(w9))) ; give 8 x9(x9(x9(k9))) ; give 7 k8k8k8k8k8k8k8k8k8k8k8k8k8k8k8k8",
            "picks 7 0 = 1000000",
            "give 6 x9(k7k7x9(k7k7x9(k7k7k7)k7)k7)k7k7 ; picks 6 0 = 1000000 ; give 5 k6x9(k6)c1w ; picks 5 NONE = 1000000",
            "picks 5 1 = 1");
    }

    private static void testPicksWithTrouble() {
        run("19 picks: NO_SUCH if there is no such card",
            "picks 10 0 = NO_SUCH ; picks -1 0 = NO_SUCH ; picks MIN 0 = NO_SUCH ; picks MAX 0 = NO_SUCH ; picks 10 6 = NO_SUCH",
            "give 9 w ; picks 9 0 = 1");
        run("19 picks: BAD_VALUE if colour is out of range",
            "picks 0 6 = BAD_VALUE ; give 0 w ; picks 0 6 = BAD_VALUE ; picks 0 -1 = BAD_VALUE ; picks 0 -5 = BAD_VALUE",
            "picks 0 -7 = BAD_VALUE",
            "picks 0 MIN = BAD_VALUE ; picks 0 MAX = BAD_VALUE ; picks 0 5 = 0 ; picks 0 0 = 1 ; picks 0 -6 = 1");
        String text = "19 picks: NOT_POSSIBLE if it, or a card that it reaches, has no text";
        run(text, "picks 0 NONE = NOT_POSSIBLE ; give 0 wk1 ; picks 0 NONE = NOT_POSSIBLE ; give 1 wk9",
            "picks 0 0 = NOT_POSSIBLE ; picks 1 0 = NOT_POSSIBLE",
            "give 9 w ; picks 0 0 = 3 ; blank 9 ; picks 0 0 = NOT_POSSIBLE");
        run(text + " (in a part that is left out)", "give 0 ws(k1) ; picks 0 0 = NOT_POSSIBLE ; give 1 w ; picks 0 0 = 1");
        run(text + " (on the stack it has its old one)", "start wk0 ; weave 2 ; blank 0 ; picks 0 0 = NOT_POSSIBLE");
        String loop = "19 picks: NONE if it, or a card that it reaches, reaches itself";
        run(loop, "give 0 k0 ; picks 0 0 = NONE ; give 1 wk0 ; picks 1 0 = NONE ; give 0 w ; picks 1 0 = 2 ; picks 0 0 = 1");
        run(loop + " (a long way)", "give 0 k1 ; give 1 k2 ; give 2 k3 ; give 3 k4 ; give 4 k5 ; give 5 k6 ; give 6 k7",
            "give 7 k8 ; give 8 k9 ; give 9 wk0",
            "picks 0 0 = NONE ; picks 5 NONE = NONE ; give 9 w ; picks 0 0 = 1 ; give 9 s(k9) ; picks 0 0 = NONE ; give 9 s(k8)",
            "picks 0 0 = NONE");
        run(loop + " (one that calls it does not matter)", "give 0 k0k1 ; give 1 w ; picks 1 0 = 1 ; picks 0 0 = NONE");
        run("19 picks: the order of its errors", "give 0 k0k1 ; picks 0 6 = BAD_VALUE ; picks 0 0 = NOT_POSSIBLE ; give 1 w",
            "picks 0 0 = NONE");
        run("19 picks: a card that is called twice does not reach itself", "give 0 k1k2 ; give 1 k3 ; give 2 k3k1 ; give 3 w",
            "picks 0 0 = 3");
    }

    private static void testDepth() {
        String most = "20 depth: how many cards are on the stack at the most when a card is woven";
        run(most, "give 0 w ; depth 0 = 1 ; give 1 k0k0wk0 ; depth 1 = 2 ; give 2 k0k1 ; depth 2 = 3 ; give 3 k1k0 ; depth 3 = 3",
            "set 0 1 ; depth 3 = 3");
        run(most + " (10)", "give 0 k1 ; give 1 k2 ; give 2 k3 ; give 3 k4 ; give 4 k5 ; give 5 k6 ; give 6 k7 ; give 7 k8",
            "give 8 k9 ; give 9 w",
            "depth 0 = 10 ; depth 1 = 9 ; depth 8 = 2 ; depth 9 = 1");
        run("20 depth: all parts and calls being done", "give 0 s(k1)l(k2) ; give 1 l(s(x2(k2))) ; give 2 c1 ; depth 0 = 3",
            "depth 1 = 2 ; depth 2 = 1");
        run("20 depth: NO_SUCH, as for picks()", "depth 10 = NO_SUCH ; depth -1 = NO_SUCH ; depth MIN = NO_SUCH",
            "depth MAX = NO_SUCH ; give 9 w ; depth 9 = 1");
        run("20 depth: NOT_POSSIBLE, as for picks()", "depth 0 = NOT_POSSIBLE ; give 0 s(k1) ; depth 0 = NOT_POSSIBLE",
            "give 1 k2 ; depth 0 = NOT_POSSIBLE",
            "give 2 w ; depth 0 = 3 ; give 2 k2k3 ; depth 0 = NOT_POSSIBLE");
        run("20 depth: NONE, as for picks()", "give 0 k1 ; give 1 s(k1) ; depth 1 = NONE ; depth 0 = NONE ; give 1 k0",
            "depth 0 = NONE ; give 1 w ; depth 0 = 2",
            "give 2 k2k0 ; depth 0 = 2 ; depth 2 = NONE");
    }

    private static void testReaches() {
        String cards = "21 reaches: those that are called in its text, wherever, and those that they reach";
        run(cards, "give 0 w ; reaches 0 = 0 ; give 1 k0 ; reaches 1 = 1 ; give 2 s(l(x2(k1))) ; reaches 2 = 3 ; give 9 k2k9",
            "reaches 9 = 519");
        run(cards + " (all)", "give 0 k1 ; give 1 k2 ; give 2 k3 ; give 3 k4 ; give 4 k5 ; give 5 k6 ; give 6 k7 ; give 7 k8",
            "give 8 k9 ; give 9 w",
            "reaches 0 = 1022 ; reaches 8 = 512 ; reaches 9 = 0 ; give 9 k0 ; reaches 0 = 1023 ; reaches 9 = 1023",
            "reaches 5 = 1023");
        run(cards + " (all, the other way round)", "give 9 k8 ; give 8 k7 ; give 7 k6 ; give 6 k5 ; give 5 k4 ; give 4 k3",
            "give 3 k2 ; give 2 k1 ; give 1 k0",
            "reaches 9 = 511 ; reaches 1 = 1 ; reaches 0 = 0");
        run("21 reaches: a card without a text reaches none", "reaches 0 = 0 ; reaches 9 = 0 ; give 0 k9k1 ; give 1 k2",
            "reaches 0 = 518 ; blank 1 ; reaches 0 = 514",
            "reaches 1 = 0");
        run("21 reaches: NO_SUCH if there is no such card", "reaches 10 = NO_SUCH ; reaches -1 = NO_SUCH ; reaches MIN = NO_SUCH",
            "reaches MAX = NO_SUCH ; reaches 9 = 0");
    }

    private static void testStop() {
        String picks = "22 stop: 0 behind how many picks";
        run(picks + " (none)", "stop 0 = 0 ; start k1 ; stop 0 = 0 ; start w ; stop 0 = 1 ; weave 1 ; stop 0 = 0");
        run(picks + " (more than 99)", "start x4(w9)c1x4(w9)c2x4(w9) ; set 1 99 ; stop 0 = 108 ; stop 1 = 1 ; weave 99 = 99",
            "stop 0 = 9");
        run("22 stop: 1 the reason", "stop 1 = 1 ; start wk1w9w9w9 ; stop 1 = 5 ; give 1 w ; stop 1 = 3 ; set 0 1 ; stop 1 = 6",
            "set 0 2 ; set 1 99 ; stop 1 = 1",
            "start x6(w9) ; stop 1 = 2 ; stop 0 = 50 ; start wx9(x9(x9(c1))) ; stop 1 = 7 ; stop 0 = 1");
        run("22 stop: 1 the reason (4)", Script.FULL_CLOTH, "stop 1 = 4 ; stop 0 = 0 ; stop 2 = 0 ; cut ; stop 1 = 2",
            "stop 0 = 50");
        run("22 stop: 2 the card on top then", "give 9 wk1 ; start wk9 ; stop 2 = 9 ; weave 1 ; stop 2 = 9 ; stop 0 = 1",
            "count 1 = 1");
        run("22 stop: 2 NONE if the weaving is over", "stop 2 = NONE ; start w ; stop 2 = NONE ; stop 0 = 1 ; weave 1",
            "stop 2 = NONE ; start wk1 ; stop 2 = 0");
        run("22 stop: BAD_VALUE if what is out of range", "stop -1 = BAD_VALUE ; stop 3 = BAD_VALUE ; stop MIN = BAD_VALUE",
            "stop MAX = BAD_VALUE ; start w ; stop 3 = BAD_VALUE");
        // The document's 999 picks cannot be passed: the cloth is full before that.
        run("22 stop: NONE if it does not stop within 999 picks (400 are the most)",
            "give 1 x8(w9)k2 ; give 2 c1x8(w9)k3 ; give 3 c2x8(w9)k4 ; give 4 c3x8(w9)k5 ; give 5 c4x8(w9)k6 ; give 6 c5x8(w9)",
            "set 1 99",
            "set 0 9 ; tie 0 50 ; tie 1 50 ; tie 2 50 ; tie 3 50 ; tie 4 50 ; tie 5 50 ; begin 1 ; stop 0 = 400 ; stop 1 = 4",
            "stop 2 = 6 ; count 2 = 0");
        run("22 stop: nothing changes", MIDWAY, "look ; stop 0 = 4 ; stop 1 = 3 ; stop 2 = 1 ; same ; count 13 = 6 ; pad = -");
    }

    private static void testAhead() {
        run("23 ahead: 1 for the next one", "start wc1wk1w ; give 1 c2w ; ahead 1 = 0 ; ahead 2 = 1 ; ahead 3 = 2 ; ahead 4 = 1",
            "weave 1 ; ahead 1 = 1 ; ahead 3 = 1");
        run("23 ahead: 99", "start x9(x9(w9)) ; set 1 99 ; tie 0 99 ; ahead 99 = 0 ; weave 1 ; ahead 99 = NONE ; ahead 98 = 0",
            "tie 0 1 ; ahead 99 = 0");
        run("23 ahead: BAD_VALUE if picks is out of range (1 to 99)",
            "ahead 0 = BAD_VALUE ; ahead 100 = BAD_VALUE ; ahead -1 = BAD_VALUE ; ahead MIN = BAD_VALUE ; ahead MAX = BAD_VALUE",
            "start w ; ahead 0 = BAD_VALUE ; ahead 100 = BAD_VALUE");
        String none = "23 ahead: NONE if the loom stops ahead of it";
        run(none + ": over", "ahead 1 = NONE ; start c1w2 ; ahead 2 = 1 ; ahead 3 = NONE ; weave 2 ; ahead 1 = NONE");
        run(none + ": no ells", "start x6(w9) ; set 1 99 ; ahead 50 = 0 ; ahead 51 = NONE");
        run(none + ": a knot", "start w9 ; set 1 2 ; ahead 2 = 0 ; ahead 3 = NONE ; weave 2 ; ahead 1 = NONE");
        run(none + ": the cloth is full", Script.FULL_CLOTH, "ahead 1 = NONE ; undo = 5 ; ahead 4 = 0 ; ahead 5 = NONE");
        run(none + ": no text", "start wk1w ; ahead 1 = 0 ; ahead 2 = NONE ; skip ; ahead 1 = NONE");
        run(none + ": the stack", "start wk0 ; set 0 2 ; ahead 2 = 0 ; ahead 3 = NONE");
        run(none + ": 500 steps", "start wx9(x9(c1c1c1c1c1))c1c1c1c1w ; ahead 2 = 1 ; start wx9(x9(c1c1c1c1c1))c1c1c1c1c1w",
            "ahead 1 = 0 ; ahead 2 = NONE");
        run("23 ahead: nothing changes", MIDWAY, "look ; ahead 1 = 2 ; ahead 9 = NONE ; ahead 99 = NONE ; same ; count 13 = 6",
            "pad = -");
    }

    private static void testPut() {
        run("24 put: 1 to 8 characters; returns the length of the pad then",
            "put 0x77 = 1 ; put 0x7778 = 3 ; put 0x777879 = 6 ; put 0x6162636465666768 = 14 ; pad = wwxwxyabcdefgh",
            "put 0x61626364656667 = 21");
        run("24 put: its lowest 8 bits are the last character", "put 0x6162 = 2 ; sign 0 = 97 ; sign 1 = 98 ; put 0x2131417e = 6",
            "pad = ab!1A~");
        run("24 put: BAD_VALUE if there is no character", "put 0 = BAD_VALUE ; count 12 = 0");
        String code = "24 put: BAD_VALUE if a code is not 33 to 126";
        run(code, "put 32 = BAD_VALUE ; put 33 = 1 ; put 126 = 2 ; put 127 = BAD_VALUE ; put 128 = BAD_VALUE",
            "put 255 = BAD_VALUE ; put 1 = BAD_VALUE ; pad = !~");
        run(code + " (the first one)", "put 0x2077 = BAD_VALUE ; put 0x2177 = 2 ; put 0x7e77 = 4 ; put 0x7f77 = BAD_VALUE",
            "put 0xff77 = BAD_VALUE ; put 0x0177 = BAD_VALUE");
        run(code + " (in the middle)", "put 0x772077 = BAD_VALUE ; put 0x777f77 = BAD_VALUE ; put 0x77f777 = BAD_VALUE",
            "put 0x777777771f777777 = BAD_VALUE ; count 12 = 0");
        run(code + " (the first of eight)", "put 0x2077777777777777 = BAD_VALUE ; put 0x7f77777777777777 = BAD_VALUE",
            "put 0xf777777777777777 = BAD_VALUE",
            "put -1 = BAD_VALUE ; put 0x7e77777777777777 = 8 ; put 0x2177777777777777 = 16");
        String above = "24 put: BAD_VALUE if a bit above 8 bits that are 0 is not 0";
        run(above, "put 0x7700 = BAD_VALUE ; put 0x770077 = BAD_VALUE ; put 0x010077 = BAD_VALUE",
            "put 0x7700000000000077 = BAD_VALUE ; put 0x8000000000000077 = BAD_VALUE",
            "put 0x0100000000000077 = BAD_VALUE ; put 0x0077007777777777 = BAD_VALUE ; put 0x7700777777777777 = BAD_VALUE",
            "put 0x8000000000000000 = BAD_VALUE",
            "put 0x7777777777777700 = BAD_VALUE ; put 0x10000000077 = BAD_VALUE ; put 0x77000077 = BAD_VALUE ; count 12 = 0",
            "put 0x0077777777777777 = 7");
    }

    private static void testPutOfTooMany() {
        String many = "24 put: TOO_MANY if the pad would be longer than 80";
        String full = "often 10 put 0x7777777777777777 ; ";
        run(many + " (one more than 80)", full + "put 0x78 = TOO_MANY ; count 12 = 80 ; sign 79 = 119",
            "put 0x7878787878787878 = TOO_MANY");
        run(many + " (80 with eight)", "often 9 put 0x7777777777777777 ; put 0x7878787878787878 = 80 ; sign 79 = 120");
        run(many + " (81 with eight)", "put 0x77 ; often 9 put 0x7777777777777777 ; count 12 = 73",
            "put 0x7878787878787878 = TOO_MANY",
            "count 12 = 73 ; sign 73 = NO_SUCH ; put 0x78787878787878 = 80");
        run(many + " (81 with two)", "often 9 put 0x7777777777777777 ; put 0x77777777777777 = 79 ; put 0x7878 = TOO_MANY",
            "put 0x78 = 80");
        run(many + " (a wrong code comes first)", full + "put 0 = BAD_VALUE ; put 0x7f = BAD_VALUE ; put 0x7700 = BAD_VALUE",
            "put 0x7e = TOO_MANY");
        run(many + " (put is not a change)", full + "put 0x78 = TOO_MANY ; count 13 = 0");
    }

    private static void testWipe() {
        run("25 wipe: empties the pad, and returns the length that it had (0)", "wipe = 0 ; type w ; wipe = 1 ; count 12 = 0",
            "sign 0 = NO_SUCH ; wipe = 0 ; count 13 = 0");
        run("25 wipe: empties the pad, and returns the length that it had (80)", "often 10 put 0x7777777777777777 ; wipe = 80",
            "wipe = 0 ; put 0x6162 = 2 ; pad = ab");
    }

    private static void testFault() {
        run("26 fault: returns the fault of the pad", "fault = 0 ; type w1 ; fault = 1 ; pad = w1 ; fault = 1 ; count 13 = 0",
            "wipe ; type ww( ; fault = 2 ; wipe ; type c ; fault = 1");
        run("26 fault: NONE if there is none", "type w ; fault = NONE ; pad = w ; put 0x6b = 2 ; fault = 2 ; put 0x39 = 3",
            "fault = NONE ; card 0 = 2 ; fault = 0");
    }

    private static void testUndo() {
        String before = "27 undo: everything except the pad, the slots and the history is as it was before it: ";
        String[] changes = {"set 0 9", "set 1 99", "set 2 99", "card 1", "card 5", "blank 1", "blank 0", "begin 0", "begin 1",
            "weave 1", "weave 99", "skip", "tie 2 99", "tie 5 1", "cut", "restore 0", "restore 1"};
        for (String change : changes) {
            run(before + change, "start w2 ; save 1 ; weave 1 ; save 0", MIDWAY, "type k2", "look", change, "undo = 5 ; same");
        }
        run(before + "the colours of the cloth", "start c1w3c2w9 ; weave 3 ; look ; cut ; weave 3 ; cloth = 222",
            "undo = 4 ; undo = 3 ; same ; cloth = 111");
        run(before + "calls, and the most cards on the stack", "give 1 k2 ; give 2 w ; start wk1w ; weave 1 ; look ; weave 1",
            "count 4 = 3 ; count 5 = 2 ; undo = 5 ; same ; count 4 = 1 ; count 5 = 0");
        run(before + "the text that a card on the stack has", MIDWAY, "begin 1 ; weave 1 ; give 1 c5w9 ; begin 1 ; undo = 5",
            "weave 1 ; pick 4 = 2 ; stack 0 2 = 2");
        run("27 undo: except the pad", "type w ; card 0 = 1 ; pad = - ; undo = 0 ; pad = - ; type ab ; cut ; type cd ; undo = 0",
            "pad = abcd ; give 0 w ; cut ; write 0 = 1 ; undo = 1 ; pad = w");
        run("27 undo: except the slots", "start w2 ; weave 1 ; save 0 = 1 ; undo = 2 ; count 2 = 0 ; restore 0 = 1 ; count 2 = 1",
            "save 1 = 1 ; undo = 2 ; restore 1 = 1 ; restore 0 = 1");
        run("27 undo: except the history", "cut ; cut ; cut ; undo = 2 ; undo = 1 ; count 13 = 1 ; undo = 0 ; count 13 = 0");
        run("27 undo: returns how many changes can be undone then", "often 6 cut ; undo = 5 ; undo = 4 ; cut ; count 13 = 5",
            "undo = 4 ; undo = 3 ; undo = 2 ; undo = 1 ; undo = 0");
        run("27 undo: NOT_POSSIBLE if there is none", "undo = NOT_POSSIBLE ; cut ; undo = 0 ; undo = NOT_POSSIBLE",
            "undo = NOT_POSSIBLE ; cut ; undo = 0");
    }

    private static void testHistory() {
        String six = "27 undo: a history of at most 6 states is kept; the oldest one is dropped";
        run(six, "set 2 1 ; set 2 2 ; set 2 3 ; set 2 4 ; set 2 5 ; set 2 6 ; count 13 = 6 ; undo = 5 ; undo = 4 ; undo = 3",
            "undo = 2 ; undo = 1 ; undo = 0",
            "count 11 = 10 ; undo = NOT_POSSIBLE");
        run(six, "set 2 1 ; set 2 2 ; set 2 3 ; set 2 4 ; set 2 5 ; set 2 6 ; set 2 7 ; count 13 = 6 ; undo = 5 ; count 11 = 6",
            "undo = 4 ; undo = 3 ; undo = 2",
            "undo = 1 ; undo = 0 ; count 11 = 1 ; undo = NOT_POSSIBLE");
        run(six, "often 20 cut ; set 2 1 ; set 2 2 ; often 3 undo ; count 13 = 3 ; set 2 8 ; set 2 9 ; set 2 11 ; set 2 12",
            "count 13 = 6 ; undo = 5 ; count 11 = 11",
            "undo = 4 ; count 11 = 9 ; undo = 3 ; count 11 = 8 ; undo = 2 ; count 11 = 10");
        run("27 undo: each method that is a change records the state before it", "type w ; set 0 5 ; count 13 = 1 ; card 0",
            "count 13 = 2 ; begin 0 ; count 13 = 3",
            "weave 1 ; count 13 = 4 ; begin 0 ; count 13 = 5 ; often 5 undo ; count 13 = 0 ; give 0 w ; begin 0 ; skip",
            "count 13 = 3 ; tie 0 1 ; count 13 = 4",
            "cut ; count 13 = 5 ; save 0 ; restore 0 ; count 13 = 6 ; often 4 undo ; blank 0 ; count 13 = 3");
        run("27 undo: also if nothing is different then", "set 0 5 = 5 ; count 13 = 1 ; cut = 0 ; count 13 = 2 ; weave 1 = 0",
            "count 13 = 3 ; weave 1 = 0 ; count 13 = 4",
            "save 0 ; restore 0 ; count 13 = 5");
        run("27 undo: what returns an error records nothing", "set 0 0 ; card 0 ; card 10 ; blank 0 ; blank 10 ; begin 0",
            "begin 10 ; weave 0 ; weave 100 ; skip ; tie 0 0",
            "tie 6 1 ; restore 0 ; restore 2 ; undo ; count 13 = 0");
        run("27 undo: what is no change records nothing", "start w ; weave 1 ; count 13 = 3 ; of 0 0 ; stack 0 0 ; thread 0 0",
            "pick 0 ; byEnd 0 ; byCloth 0 ; write 0 ; sign 0",
            "count 0 ; picks 0 0 ; depth 0 ; reaches 0 ; stop 0 ; ahead 1 ; put 119 ; fault ; wipe ; save 0 ; count 13 = 3",
            "undo = 2 ; count 13 = 2");
    }

    private static void testSave() {
        run("28 save: saves everything except the pad, the history and the slots, and overwrites what was saved there",
            MIDWAY, "look ; save 0 = 3 ; often 2 cut ; restore 0 = 3 ; same ; cut ; save 0 = 0 ; restore 0 = 0",
            "count 2 = 0 ; restore 1 = NOT_POSSIBLE");
        run("28 save: returns how many picks the cloth has (0, 1)", "save 0 = 0 ; start w2 ; weave 1 ; save 0 = 1 ; weave 1",
            "cut ; save 0 = 0");
        run("28 save: returns how many picks the cloth has (400)", Script.FULL_CLOTH, "save 1 = 400 ; cut ; restore 1 = 400",
            "pick 399 = 0");
        run("28 save: BAD_VALUE if there is no such slot (0 or 1)", "save -1 = BAD_VALUE ; save 2 = BAD_VALUE",
            "save MIN = BAD_VALUE ; save MAX = BAD_VALUE ; restore 0 = NOT_POSSIBLE",
            "restore 1 = NOT_POSSIBLE ; save 0 = 0 ; save 1 = 0");
        run("28 save: this is no change", "start w ; weave 1 ; save 0 = 1 ; save 1 = 1 ; count 13 = 3");
    }

    private static void testRestore() {
        run("29 restore: restores what was saved last in a slot, which keeps it",
            "start w9 ; weave 2 ; save 0 = 2 ; weave 3 ; save 0 = 5 ; look ; weave 1 ; restore 0 = 5 ; weave 4 = 4",
            "restore 0 = 5 ; restore 0 = 5 ; same");
        run("29 restore: (each slot for itself)", "start w9 ; weave 2 ; save 0 = 2 ; weave 3 ; save 1 = 5 ; restore 0 = 2",
            "restore 1 = 5 ; restore 0 = 2 ; stop 0 = 7");
        run("29 restore: (not the pad, nor the history)", "start w9 ; save 0 ; type ab ; often 4 cut ; count 13 = 6 ; undo = 5",
            "restore 0 = 0 ; pad = ab ; count 13 = 6 ; undo = 5 ; undo = 4");
        run("29 restore: (the colours of the cloth)", "start c1w3c2w9 ; weave 3 ; save 1 = 3 ; cut ; weave 3 ; cloth = 222",
            "restore 1 = 3 ; cloth = 111");
        run("29 restore: (calls, and the most cards on the stack)", "give 1 k2 ; give 2 w ; start wk1w ; weave 1",
            "save 0 ; weave 1 ; count 4 = 3 ; count 5 = 2 ; restore 0 = 1 ; count 4 = 1 ; count 5 = 0 ; of 2 4 = 0 ; weave 9 = 2");
        run("29 restore: (the text that a card on the stack has)", "start w2c1w ; weave 1 ; give 0 c5w9 ; save 0 ; weave 9 = 2",
            "begin 0 ; restore 0 = 1 ; of 0 0 = 4 ; weave 9 = 2 ; cloth = 001");
        run("29 restore: this is a change", MIDWAY, "save 0 = 3 ; cut ; tie 5 1 ; look ; restore 0 = 3 ; count 13 = 6 ; undo = 5",
            "same ; restore 0 = 3 ; count 2 = 3");
        run("29 restore: returns how many picks the cloth has then", "save 1 = 0 ; start w ; weave 1 ; save 0 = 1",
            "restore 1 = 0 ; count 2 = 0 ; count 0 = 0 ; restore 0 = 1 ; count 2 = 1");
        run("29 restore: BAD_VALUE if there is no such slot", "restore -1 = BAD_VALUE ; restore 2 = BAD_VALUE",
            "restore MIN = BAD_VALUE ; restore MAX = BAD_VALUE ; save 1 ; restore 2 = BAD_VALUE");
        run("29 restore: NOT_POSSIBLE if nothing was saved in it", "restore 0 = NOT_POSSIBLE ; restore 1 = NOT_POSSIBLE ; save 0",
            "restore 1 = NOT_POSSIBLE ; restore 0 = 0 ; count 13 = 1",
            "save 1 ; restore 1 = 0");
    }
}
