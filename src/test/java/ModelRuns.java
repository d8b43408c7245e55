/**
 * Long runs of calls on the class and on the plain model, with the same answers due. The calls are chosen by a fixed
 * row of numbers, so that each time the same runs are done.
 */
public final class ModelRuns {
    private static final int RUNS = 3000, CALLS_MOST = 512, WRONG_MOST = 20;
    private static final String[] KNOWN = {
        "x9(x9(x9(c1)))w", "x9(x9(c1c1c1c1c1))c1c1c1c1c1w", "x9(x9(c1c1c1c1c1))c1c1c1c1w2", "wk0", "k0", "x9(x9(w9))",
        "x9(w9)c1x9(w9)c2x9(w9)c3x9(w9)c4x9(w9)c5x9(w9)", "c3s(w2c4)l(w3c5)s(w)l(w)", "x5(s(c1w)l(c2w)x2(w))"};

    private final CallingLooms loom = new CallingLooms();
    private final PlainModel model = new PlainModel();
    private final int run;
    // A patient run ties and weaves much, a deep one calls much.
    private final boolean patient;
    private final boolean onlyUpward;
    private long seed;
    private int calls = 0;
    private int wrong = 0;

    private ModelRuns(int run) {
        this.run = run;
        this.seed = run * 7919L + 17;
        this.patient = run % 3 == 0;
        this.onlyUpward = run % 2 == 0;
    }

    public static void main(String[] args) {
        int wrong = 0;
        for (int run = 0; run < RUNS && wrong < WRONG_MOST; run++) wrong += new ModelRuns(run).play();
        Checks.end("ModelRuns");
    }

    private int below(int end) {
        seed = seed * 6364136223846793005L + 1442695040888963407L;
        return (int) ((seed >>> 33) % end);
    }

    private boolean inOneOf(int many) {
        return below(many) == 0;
    }

    private void due(String call, int got, int want) {
        calls++;
        if (got == want) return;
        wrong++;
        Checks.due("run " + run + ", call " + calls + ": " + call, got, want);
    }

    /** The rest of a run with a wrong answer would be wrong, too. */
    private int play() {
        if (patient) due("set", loom.set(1, 99), model.set(1, 99));
        while (calls < CALLS_MOST - 20 && wrong == 0) {
            int kind = below(100);
            if (kind < 12) giveText();
            else if (kind < 62) change();
            else ask();
        }
        return wrong;
    }

    private int aCard() {
        return inOneOf(40) ? below(14) - 2 : below(10);
    }

    private int aColour() {
        return inOneOf(40) ? below(10) - 2 : below(6);
    }

    private void giveText() {
        int card = aCard();
        StringBuilder text = new StringBuilder();
        if (inOneOf(5)) text.append(KNOWN[below(KNOWN.length)]);
        else if (inOneOf(5)) steps(text, 70, 0, card);
        else steps(text, 4 + below(20), 0, card);
        if (inOneOf(8)) text.setCharAt(below(text.length()), "wckxsl()0123456789".charAt(below(18)));
        if (inOneOf(15)) text.setLength(below(text.length()));
        if (!inOneOf(10)) due("wipe", loom.wipe(), model.wipe());
        for (int i = 0; i < text.length() && i < 80; i += 8) {
            long number = Checks.number(text.substring(i, Math.min(i + 8, text.length())));
            due("put(" + number + ")", loom.put(number), model.put(number));
        }
        due("fault", loom.fault(), model.fault());
        due("card " + card + " " + text, loom.card(card), model.card(card));
        if (inOneOf(2)) due("begin " + card, loom.begin(card), model.begin(card));
    }

    private void steps(StringBuilder text, int length, int level, int card) {
        int end = text.length() + length;
        do {
            int kind = below(level < 3 ? 14 : 10);
            if (kind < 4) text.append(inOneOf(2) ? "w" : "w" + (2 + below(8)));
            else if (kind < 6) text.append('c').append(below(6));
            else if (kind < 9) text.append('k').append(aCalled(card));
            else if (kind < 10) text.append("w");
            else part(text, kind, length / 2, level, card);
        } while (text.length() < end);
    }

    private int aCalled(int card) {
        boolean upward = onlyUpward && card >= 0 && card < 9 && !inOneOf(30);
        return upward ? card + 1 + below(9 - card) : below(10);
    }

    private void part(StringBuilder text, int kind, int length, int level, int card) {
        text.append(kind < 12 ? "x" + (2 + below(8)) : kind < 13 ? "s" : "l").append('(');
        steps(text, length, level + 1, card);
        text.append(')');
    }

    private void change() {
        int card = aCard();
        int colour = aColour();
        int kind = below(patient ? 40 : 24);
        if (kind < 3) setOne();
        else if (kind < 4) due("blank " + card, loom.blank(card), model.blank(card));
        else if (kind < 6) due("begin " + card, loom.begin(card), model.begin(card));
        else if (kind < 11) skipOrWeave(1 + below(12));
        else if (kind < 14) skipOrWeave(below(102));
        else if (kind < 16) due("skip", loom.skip(), model.skip());
        else if (kind < 19) tieOne(colour, below(12) * 10);
        else if (kind < 20) cutOrRestore();
        else if (kind < 22) due("undo", loom.undo(), model.undo());
        else if (kind < 24) saveOrRestore();
        else if (kind < 32) tieOne(colour, 1 + below(99));
        else skipOrWeave(1 + below(99));
    }

    private void setOne() {
        int setting = inOneOf(20) ? below(6) - 1 : below(3);
        int value = inOneOf(3) ? below(102) - 1 : below(11);
        if (patient && setting == 1) return;
        due("set", loom.set(setting, value), model.set(setting, value));
    }

    private void skipOrWeave(int picks) {
        if (inOneOf(6)) due("skip", loom.skip(), model.skip());
        else due("weave " + picks, loom.weave(picks), model.weave(picks));
        due("count(6)", loom.count(6), model.count(6));
    }

    private void tieOne(int colour, int ells) {
        due("tie", loom.tie(colour, ells), model.tie(colour, ells));
    }

    private void cutOrRestore() {
        if (!patient || inOneOf(8)) due("cut", loom.cut(), model.cut());
    }

    private void saveOrRestore() {
        int slot = inOneOf(20) ? below(4) - 1 : below(2);
        if (inOneOf(2)) due("save", loom.save(slot), model.save(slot));
        else due("restore", loom.restore(slot), model.restore(slot));
    }

    private void ask() {
        int card = aCard();
        int colour = aColour();
        int what = below(8) - (inOneOf(10) ? 1 : 0);
        int rank = below(6) - (inOneOf(10) ? 1 : 0);
        int wanted = inOneOf(2) ? -6 : colour;
        switch (below(14)) {
            case 0: due("of " + card + " " + what, loom.of(card, what), model.of(card, what)); break;
            case 1:
            case 2: askStack(rank); break;
            case 3: due("thread " + colour + " " + what, loom.thread(colour, what), model.thread(colour, what)); break;
            case 4: askPick(); break;
            case 5: due("byEnd " + rank, loom.byEnd(rank), model.byEnd(rank)); break;
            case 6: due("byCloth " + rank, loom.byCloth(rank), model.byCloth(rank)); break;
            case 7: due("write " + card, loom.write(card), model.write(card)); break;
            case 8: askSign(); break;
            case 9: askCount(); break;
            case 10:
            case 11:
                due("picks " + card + " " + wanted, loom.picks(card, wanted), model.picks(card, wanted));
                due("depth " + card, loom.depth(card), model.depth(card));
                due("reaches " + card, loom.reaches(card), model.reaches(card));
                break;
            case 12: askStop(); break;
            default: askAhead();
        }
    }

    private void askStack(int rank) {
        for (int what = -1; what < 5; what++) {
            if (rank >= 0 && what >= 0 && what < 4 || inOneOf(10)) {
                due("stack " + rank + " " + what, loom.stack(rank, what), model.stack(rank, what));
            }
        }
    }

    private void askPick() {
        int pick = below(model.count(2) + 3) - 1;
        due("pick " + pick, loom.pick(pick), model.pick(pick));
    }

    private void askSign() {
        int place = below(model.count(12) + 3) - 1;
        due("sign " + place, loom.sign(place), model.sign(place));
    }

    private void askCount() {
        int what = below(17) - 1;
        due("count " + what, loom.count(what), model.count(what));
    }

    private void askStop() {
        for (int what = inOneOf(8) ? -1 : 0; what < 3; what++) {
            due("stop " + what, loom.stop(what), model.stop(what));
        }
        if (inOneOf(8)) due("stop 3", loom.stop(3), model.stop(3));
    }

    private void askAhead() {
        int picks = inOneOf(3) ? below(103) : 1 + below(15);
        due("ahead " + picks, loom.ahead(picks), model.ahead(picks));
    }
}
