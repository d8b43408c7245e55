import java.util.ArrayList;
import java.util.HashMap;
import java.util.LinkedList;
import java.util.List;
import java.util.Map;
import java.util.TreeSet;

/**
 * The document once more, in another form: texts as trees of steps, and each card on the stack with the list of
 * the steps that it has still to do. ModelRuns asks both and compares.
 */
final class PlainModel {
    private static final int NO_SUCH = -1, BAD_VALUE = -2, BAD_TEXT = -3, TOO_MANY = -4, NOT_POSSIBLE = -5, NONE = -6;

    /** A step as it stands in a text. */
    private static final class Step {
        char kind;
        int place;
        int number = 1;
        List<Step> part = new ArrayList<>();
    }

    /** A step that is still to do, so many times. */
    private static final class Due {
        final Step step;
        final int parts;
        final int times;

        Due(Step step, int parts, int times) {
            this.step = step;
            this.parts = parts;
            this.times = times;
        }
    }

    private static final class Fault extends Exception {
        private static final long serialVersionUID = 1;
        final int place;

        Fault(int place) {
            this.place = place;
        }
    }

    private static final class Working {
        int card;
        int colour;
        LinkedList<Due> agenda = new LinkedList<>();

        Working copy() {
            Working copy = new Working();
            copy.card = card;
            copy.colour = colour;
            copy.agenda.addAll(agenda);
            return copy;
        }
    }

    private static final class State {
        int[] settings = {5, 20, 10};
        String[] texts = new String[10];
        int[] begun = new int[10];
        int[] ells = {50, 50, 50, 50, 50, 50};
        int[] strain = new int[6];
        int[] knots = new int[6];
        int[] woven = new int[6];
        List<Integer> cloth = new ArrayList<>();
        LinkedList<Working> stack = new LinkedList<>();
        int most, calls, reason;

        State copy() {
            State copy = new State();
            copy.settings = settings.clone();
            copy.texts = texts.clone();
            copy.begun = begun.clone();
            copy.ells = ells.clone();
            copy.strain = strain.clone();
            copy.knots = knots.clone();
            copy.woven = woven.clone();
            copy.cloth.addAll(cloth);
            for (Working working : stack) copy.stack.add(working.copy());
            copy.most = most;
            copy.calls = calls;
            copy.reason = reason;
            return copy;
        }
    }

    private State state = new State();
    private final LinkedList<State> history = new LinkedList<>();
    private final State[] slots = new State[2];
    private String pad = "";

    private void change() {
        history.addLast(state.copy());
        if (history.size() > 6) history.removeFirst();
    }

    // ---- reading

    private static List<Step> parse(String text) throws Fault {
        int[] at = {0};
        List<Step> steps = parseSteps(text, at, 0);
        if (at[0] < text.length()) throw new Fault(at[0]);
        return steps;
    }

    private static List<Step> parseSteps(String text, int[] at, int level) throws Fault {
        List<Step> steps = new ArrayList<>();
        do {
            steps.add(parseStep(text, at, level));
        } while (at[0] < text.length() && text.charAt(at[0]) != ')');
        return steps;
    }

    private static Step parseStep(String text, int[] at, int level) throws Fault {
        Step step = new Step();
        step.place = at[0];
        step.kind = one(text, at, "wckxsl");
        if (step.kind == 'w' && at[0] < text.length() && "23456789".indexOf(text.charAt(at[0])) >= 0) {
            step.number = one(text, at, "23456789") - '0';
        }
        if (step.kind == 'c') step.number = one(text, at, "012345") - '0';
        if (step.kind == 'k') step.number = one(text, at, "0123456789") - '0';
        if (step.kind == 'x') step.number = one(text, at, "23456789") - '0';
        if ("xsl".indexOf(step.kind) >= 0) {
            one(text, at, level == 3 ? "" : "(");
            step.part = parseSteps(text, at, level + 1);
            one(text, at, ")");
        }
        return step;
    }

    private static char one(String text, int[] at, String allowed) throws Fault {
        if (at[0] >= text.length() || allowed.indexOf(text.charAt(at[0])) < 0) throw new Fault(at[0]);
        return text.charAt(at[0]++);
    }

    private static List<Step> tree(String text) {
        try {
            return text == null ? new ArrayList<>() : parse(text);
        } catch (Fault fault) {
            throw new IllegalStateException(text);
        }
    }

    private static int faultOf(String text) {
        try {
            parse(text);
            return NONE;
        } catch (Fault fault) {
            return fault.place;
        }
    }

    private static int countSteps(List<Step> steps) {
        int many = 0;
        for (Step step : steps) many += 1 + countSteps(step.part);
        return many;
    }

    private static int nesting(List<Step> steps) {
        int deepest = 0;
        for (Step step : steps) {
            if (!step.part.isEmpty()) deepest = Math.max(deepest, 1 + nesting(step.part));
        }
        return deepest;
    }

    private static TreeSet<Integer> called(List<Step> steps) {
        TreeSet<Integer> cards = new TreeSet<>();
        for (Step step : steps) {
            if (step.kind == 'k') cards.add(step.number);
            cards.addAll(called(step.part));
        }
        return cards;
    }

    private static int mask(TreeSet<Integer> cards) {
        int mask = 0;
        for (int card : cards) mask += 1 << card;
        return mask;
    }

    private TreeSet<Integer> reached(int card) {
        TreeSet<Integer> found = new TreeSet<>();
        LinkedList<Integer> open = new LinkedList<>(called(tree(state.texts[card])));
        while (!open.isEmpty()) {
            int next = open.removeFirst();
            if (found.add(next)) open.addAll(called(tree(state.texts[next])));
        }
        return found;
    }

    private int callers(int card) {
        TreeSet<Integer> cards = new TreeSet<>();
        for (int caller = 0; caller < 10; caller++) {
            if (called(tree(state.texts[caller])).contains(card)) cards.add(caller);
        }
        return mask(cards);
    }

    // ---- weaving

    private static void toDo(Working working, List<Step> steps, int parts) {
        for (int i = steps.size() - 1; i >= 0; i--) {
            Step step = steps.get(i);
            int times = step.kind == 'w' || step.kind == 'x' ? step.number : 1;
            working.agenda.addFirst(new Due(step, parts, times));
        }
    }

    private static void come(State on, int card, int colour) {
        Working working = new Working();
        working.card = card;
        working.colour = colour;
        toDo(working, tree(on.texts[card]), 0);
        on.stack.addLast(working);
        on.begun[card]++;
        on.most = Math.max(on.most, on.stack.size());
    }

    private static void leave(State on) {
        while (!on.stack.isEmpty() && on.stack.getLast().agenda.isEmpty()) {
            on.stack.removeLast();
            // The card below was at its call until now.
            if (!on.stack.isEmpty()) on.stack.getLast().agenda.removeFirst();
        }
    }

    /** One time of the next step is done; the rest of its times stays. */
    private static void oneLess(Working working) {
        Due due = working.agenda.removeFirst();
        if (due.times > 1) working.agenda.addFirst(new Due(due.step, due.parts, due.times - 1));
    }

    private static int goOn(State on, int asked) {
        int woven = 0;
        int steps = 0;
        on.reason = 0;
        while (woven < asked) {
            on.reason = reason(on, steps);
            if (on.reason != 0) return woven;
            Working top = on.stack.getLast();
            Due due = top.agenda.getFirst();
            steps++;
            switch (due.step.kind) {
                case 'w':
                    on.ells[top.colour]--;
                    on.strain[top.colour]++;
                    on.woven[top.colour]++;
                    on.cloth.add(top.colour);
                    oneLess(top);
                    woven++;
                    steps = 0;
                    break;
                case 'c':
                    top.colour = due.step.number;
                    oneLess(top);
                    break;
                case 'k':
                    on.calls++;
                    come(on, due.step.number, top.colour);
                    break;
                default:
                    boolean isShort = on.ells[top.colour] < on.settings[2];
                    oneLess(top);
                    boolean done = due.step.kind == 'x' || (due.step.kind == 's' ? isShort : !isShort);
                    if (done) toDo(top, due.step.part, due.parts + 1);
            }
            leave(on);
        }
        return woven;
    }

    private static int reason(State on, int steps) {
        if (on.stack.isEmpty()) return 1;
        Working top = on.stack.getLast();
        Step step = top.agenda.getFirst().step;
        if (step.kind == 'w' && on.ells[top.colour] <= 0) return 2;
        if (step.kind == 'w' && on.strain[top.colour] >= on.settings[1]) return 3;
        if (step.kind == 'w' && on.cloth.size() == 400) return 4;
        if (step.kind == 'k' && on.texts[step.number] == null) return 5;
        if (step.kind == 'k' && on.stack.size() >= on.settings[0]) return 6;
        return steps == 500 ? 7 : 0;
    }

    // ---- changes

    int set(int setting, int value) {
        int[] lowest = {1, 2, 0};
        int[] highest = {9, 99, 99};
        if (setting < 0 || setting > 2 || value < lowest[setting] || value > highest[setting]) return BAD_VALUE;
        change();
        int previous = state.settings[setting];
        state.settings[setting] = value;
        return previous;
    }

    int card(int card) {
        if (card < 0 || card > 9) return NO_SUCH;
        if (faultOf(pad) != NONE) return BAD_TEXT;
        change();
        state.texts[card] = pad;
        pad = "";
        return countSteps(tree(state.texts[card]));
    }

    int blank(int card) {
        if (card < 0 || card > 9) return NO_SUCH;
        if (state.texts[card] == null) return NOT_POSSIBLE;
        change();
        state.texts[card] = null;
        return callers(card);
    }

    int begin(int card) {
        if (card < 0 || card > 9) return NO_SUCH;
        if (state.texts[card] == null) return NOT_POSSIBLE;
        change();
        int had = state.stack.size();
        state.stack.clear();
        come(state, card, 0);
        return had;
    }

    int weave(int picks) {
        if (picks < 1 || picks > 99) return BAD_VALUE;
        change();
        return goOn(state, picks);
    }

    int skip() {
        if (state.stack.isEmpty()) return NOT_POSSIBLE;
        change();
        Working top = state.stack.getLast();
        if (top.agenda.getFirst().step.kind == 'w') oneLess(top);
        else top.agenda.removeFirst();
        leave(state);
        return state.stack.size();
    }

    int tie(int colour, int ells) {
        if (colour < 0 || colour > 5) return NO_SUCH;
        if (ells < 1 || ells > 99) return BAD_VALUE;
        change();
        state.ells[colour] = Math.min(999, state.ells[colour] + ells);
        state.strain[colour] = 0;
        state.knots[colour]++;
        return state.ells[colour];
    }

    int cut() {
        change();
        int had = state.cloth.size();
        state.cloth.clear();
        return had;
    }

    // ---- what there is

    int of(int card, int what) {
        if (card < 0 || card > 9) return NO_SUCH;
        List<Step> steps = tree(state.texts[card]);
        switch (what) {
            case 0: return state.texts[card] == null ? 0 : state.texts[card].length();
            case 1: return countSteps(steps);
            case 2: return mask(called(steps));
            case 3: return callers(card);
            case 4: return state.begun[card];
            case 5: return (int) state.stack.stream().filter(working -> working.card == card).count();
            case 6: return nesting(steps);
            default: return BAD_VALUE;
        }
    }

    int stack(int rank, int what) {
        if (rank < 0 || rank >= state.stack.size()) return NO_SUCH;
        Working working = state.stack.get(state.stack.size() - 1 - rank);
        switch (what) {
            case 0: return working.card;
            case 1: return working.colour;
            case 2: return working.agenda.getFirst().step.place;
            case 3: return working.agenda.getFirst().parts;
            default: return BAD_VALUE;
        }
    }

    private int clothPicks(int colour) {
        return (int) state.cloth.stream().filter(pick -> pick == colour).count();
    }

    int thread(int colour, int what) {
        if (colour < 0 || colour > 5) return NO_SUCH;
        switch (what) {
            case 0: return state.ells[colour];
            case 1: return state.strain[colour];
            case 2: return state.knots[colour];
            case 3: return state.woven[colour];
            case 4: return clothPicks(colour);
            case 5: return longest(colour);
            default: return BAD_VALUE;
        }
    }

    private int longest(int colour) {
        StringBuilder cloth = new StringBuilder();
        for (int pick : state.cloth) cloth.append(pick);
        int longest = 0;
        for (String row : cloth.toString().split("[^" + colour + "]+")) longest = Math.max(longest, row.length());
        return longest;
    }

    int pick(int pick) {
        return pick < 0 || pick >= state.cloth.size() ? NO_SUCH : state.cloth.get(pick);
    }

    int byEnd(int rank) {
        if (rank < 0 || rank > 5) return NO_SUCH;
        List<Integer> colours = new ArrayList<>(List.of(0, 1, 2, 3, 4, 5));
        colours.sort((one, other) -> state.ells[one] - state.ells[other]);
        return colours.get(rank);
    }

    int byCloth(int rank) {
        List<Integer> colours = new ArrayList<>(List.of(0, 1, 2, 3, 4, 5));
        colours.removeIf(colour -> clothPicks(colour) == 0);
        colours.sort((one, other) -> clothPicks(other) - clothPicks(one));
        return rank < 0 || rank >= colours.size() ? NO_SUCH : colours.get(rank);
    }

    int write(int card) {
        if (card < 0 || card > 9) return NO_SUCH;
        if (state.texts[card] == null) return NOT_POSSIBLE;
        pad = state.texts[card];
        return pad.length();
    }

    int sign(int place) {
        return place < 0 || place >= pad.length() ? NO_SUCH : pad.charAt(place);
    }

    int count(int what) {
        int total = 0;
        switch (what) {
            case 0:
                for (int card = 0; card < 10; card++) total += state.texts[card] == null ? 0 : 1 << card;
                return total;
            case 1: return state.stack.size();
            case 2: return state.cloth.size();
            case 3: return java.util.stream.IntStream.of(state.woven).sum();
            case 4: return state.most;
            case 5: return state.calls;
            case 6: return state.reason;
            case 7: return java.util.stream.IntStream.of(state.knots).sum();
            case 8: return java.util.stream.IntStream.of(state.ells).sum();
            case 9: return state.settings[0];
            case 10: return state.settings[1];
            case 11: return state.settings[2];
            case 12: return pad.length();
            case 13: return history.size();
            default: return BAD_VALUE;
        }
    }

    // ---- found without weaving

    private int trouble(int card) {
        TreeSet<Integer> all = reached(card);
        all.add(card);
        boolean loops = false;
        for (int other : all) {
            if (state.texts[other] == null) return NOT_POSSIBLE;
            loops |= reached(other).contains(other);
        }
        return loops ? NONE : 0;
    }

    int picks(int card, int colour) {
        if (card < 0 || card > 9) return NO_SUCH;
        if (colour != NONE && (colour < 0 || colour > 5)) return BAD_VALUE;
        int trouble = trouble(card);
        if (trouble != 0) return trouble;
        Map<Integer, Double> known = new HashMap<>();
        return (int) Math.min(1000000, picksOfCard(card, 0, colour, known));
    }

    private double picksOfCard(int card, int first, int wanted, Map<Integer, Double> known) {
        int key = card * 6 + first;
        if (!known.containsKey(key)) {
            known.put(key, picksOfSteps(tree(state.texts[card]), new int[] {first}, wanted, known));
        }
        return known.get(key);
    }

    private double picksOfSteps(List<Step> steps, int[] colour, int wanted, Map<Integer, Double> known) {
        double picks = 0;
        for (Step step : steps) {
            if (step.kind == 'w' && (wanted == NONE || wanted == colour[0])) picks += step.number;
            if (step.kind == 'c') colour[0] = step.number;
            if (step.kind == 'k') picks += picksOfCard(step.number, colour[0], wanted, known);
            int times = step.kind == 'x' ? step.number : step.kind == 'l' ? 1 : 0;
            for (int i = 0; i < times; i++) picks += picksOfSteps(step.part, colour, wanted, known);
        }
        return picks;
    }

    int depth(int card) {
        if (card < 0 || card > 9) return NO_SUCH;
        int trouble = trouble(card);
        return trouble != 0 ? trouble : deepest(card);
    }

    private int deepest(int card) {
        int deepest = 0;
        for (int other : called(tree(state.texts[card]))) deepest = Math.max(deepest, deepest(other));
        return deepest + 1;
    }

    int reaches(int card) {
        return card < 0 || card > 9 ? NO_SUCH : mask(reached(card));
    }

    // ---- what if

    int stop(int what) {
        if (what < 0 || what > 2) return BAD_VALUE;
        State trial = state.copy();
        int woven = goOn(trial, 1000);
        if (trial.reason == 0) return NONE;
        if (what == 0) return woven;
        if (what == 1) return trial.reason;
        return trial.stack.isEmpty() ? NONE : trial.stack.getLast().card;
    }

    int ahead(int picks) {
        if (picks < 1 || picks > 99) return BAD_VALUE;
        State trial = state.copy();
        return goOn(trial, picks) < picks ? NONE : trial.cloth.get(trial.cloth.size() - 1);
    }

    // ---- texts

    int put(long characters) {
        String text = "";
        boolean over = false;
        for (int i = 0; i < 8; i++) {
            int code = (int) (characters >> 8 * i & 255);
            if (code == 0) over = true;
            else if (over || code < 33 || code > 126) return BAD_VALUE;
            else text = (char) code + text;
        }
        if (text.isEmpty()) return BAD_VALUE;
        if (pad.length() + text.length() > 80) return TOO_MANY;
        pad += text;
        return pad.length();
    }

    int wipe() {
        int had = pad.length();
        pad = "";
        return had;
    }

    int fault() {
        return faultOf(pad);
    }

    // ---- undo, saving

    int undo() {
        if (history.isEmpty()) return NOT_POSSIBLE;
        state = history.removeLast();
        return history.size();
    }

    int save(int slot) {
        if (slot < 0 || slot > 1) return BAD_VALUE;
        slots[slot] = state.copy();
        return state.cloth.size();
    }

    int restore(int slot) {
        if (slot < 0 || slot > 1) return BAD_VALUE;
        if (slots[slot] == null) return NOT_POSSIBLE;
        change();
        state = slots[slot].copy();
        return state.cloth.size();
    }
}
