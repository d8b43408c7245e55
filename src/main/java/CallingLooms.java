/**
 * A loom with cards that call other cards and come back to their own thread.
 * The document (DOC.md) says what each call answers; an error code is returned before anything changes.
 */
public final class CallingLooms {
    public static final int NO_SUCH = -1, BAD_VALUE = -2, BAD_TEXT = -3, TOO_MANY = -4, NOT_POSSIBLE = -5, NONE = -6;
    public static final int DEPTH = 0, STRAIN = 1, SHORT = 2;

    private static final int CARDS = 10, COLOURS = 6, SETTINGS = 3, SLOTS = 2;
    private static final int PAD_MOST = 80, CLOTH_MOST = 400, ELLS_MOST = 999, STACK_MOST = 9, NESTING_MOST = 3;
    private static final int ASKED_MOST = 99, LOOKED_MOST = 999, STEPS_MOST = 500, TOLD_MOST = 1000000;
    private static final int ALL_WOVEN = 0, OVER = 1, NO_ELLS = 2, KNOT_DUE = 3, CLOTH_FULL = 4,
            NO_TEXT = 5, STACK_FULL = 6, TOO_MANY_STEPS = 7;
    private static final int[] SETTING_LOWEST = {1, 2, 0};
    private static final int[] SETTING_HIGHEST = {9, 99, 99};

    private final Pad pad;
    private final TextReader reader;
    private final Loom loom;
    // stop() and ahead() weave on this copy, so that the loom itself stays as it is.
    private final Loom trial;
    private final History history;
    // A slot in which nothing was saved is null.
    private final Loom[] slots;
    private final Finder finder;

    public CallingLooms() {
        pad = new Pad();
        reader = new TextReader();
        loom = new Loom();
        trial = new Loom();
        history = new History();
        slots = new Loom[SLOTS];
        finder = new Finder();
    }

    // ---- changes

    public int set(int setting, int value) {
        if (!inRange(setting, SETTINGS)) return BAD_VALUE;
        if (value < SETTING_LOWEST[setting] || value > SETTING_HIGHEST[setting]) return BAD_VALUE;
        history.keep(loom);
        int previous = loom.settings[setting];
        loom.settings[setting] = value;
        return previous;
    }

    public int card(int card) {
        if (!inRange(card, CARDS)) return NO_SUCH;
        if (reader.faultOf(pad) != NONE) return BAD_TEXT;
        history.keep(loom);
        CardText text = reader.readText();
        loom.texts[card] = text;
        pad.length = 0;
        return text.steps;
    }

    public int blank(int card) {
        if (!inRange(card, CARDS)) return NO_SUCH;
        if (loom.texts[card] == null) return NOT_POSSIBLE;
        history.keep(loom);
        loom.texts[card] = null;
        return Finder.callersOf(loom.texts, card);
    }

    public int begin(int card) {
        if (!inRange(card, CARDS)) return NO_SUCH;
        if (loom.texts[card] == null) return NOT_POSSIBLE;
        history.keep(loom);
        return loom.beginWith(card);
    }

    public int weave(int picks) {
        if (picks < 1 || picks > ASKED_MOST) return BAD_VALUE;
        history.keep(loom);
        return loom.goOn(picks);
    }

    public int skip() {
        if (loom.stack.size == 0) return NOT_POSSIBLE;
        history.keep(loom);
        loom.stack.passOver();
        loom.stack.leaveEnds();
        return loom.stack.size;
    }

    public int tie(int colour, int ells) {
        if (!inRange(colour, COLOURS)) return NO_SUCH;
        if (ells < 1 || ells > ASKED_MOST) return BAD_VALUE;
        history.keep(loom);
        return loom.tieThread(colour, ells);
    }

    public int cut() {
        history.keep(loom);
        int had = loom.clothLength;
        loom.clothLength = 0;
        return had;
    }

    // ---- what there is

    public int of(int card, int what) {
        if (!inRange(card, CARDS)) return NO_SUCH;
        CardText text = loom.texts[card];
        switch (what) {
            case 0: return text == null ? 0 : text.length;
            case 1: return text == null ? 0 : text.steps;
            case 2: return text == null ? 0 : text.calls;
            case 3: return Finder.callersOf(loom.texts, card);
            case 4: return loom.begun[card];
            case 5: return loom.stack.timesOn(card);
            case 6: return text == null ? 0 : text.nesting;
            default: return BAD_VALUE;
        }
    }

    public int stack(int rank, int what) {
        if (!inRange(rank, loom.stack.size)) return NO_SUCH;
        int index = loom.stack.size - 1 - rank;
        switch (what) {
            case 0: return loom.stack.cards[index];
            case 1: return loom.stack.colours[index];
            case 2: return loom.stack.placeOf(index);
            case 3: return loom.stack.parts[index];
            default: return BAD_VALUE;
        }
    }

    public int thread(int colour, int what) {
        if (!inRange(colour, COLOURS)) return NO_SUCH;
        switch (what) {
            case 0: return loom.ells[colour];
            case 1: return loom.strain[colour];
            case 2: return loom.knots[colour];
            case 3: return loom.woven[colour];
            case 4: return loom.clothPicks(colour);
            case 5: return loom.longestRow(colour);
            default: return BAD_VALUE;
        }
    }

    public int pick(int pick) {
        if (!inRange(pick, loom.clothLength)) return NO_SUCH;
        return loom.cloth[pick];
    }

    public int byEnd(int rank) {
        if (!inRange(rank, COLOURS)) return NO_SUCH;
        for (int colour = 0; colour < COLOURS; colour++) {
            if (loom.endRank(colour) == rank) return colour;
        }
        return NO_SUCH;
    }

    public int byCloth(int rank) {
        if (!inRange(rank, COLOURS)) return NO_SUCH;
        for (int colour = 0; colour < COLOURS; colour++) {
            if (loom.clothPicks(colour) > 0 && loom.clothRank(colour) == rank) return colour;
        }
        return NO_SUCH;
    }

    public int write(int card) {
        if (!inRange(card, CARDS)) return NO_SUCH;
        CardText text = loom.texts[card];
        if (text == null) return NOT_POSSIBLE;
        pad.takeOver(text);
        return pad.length;
    }

    public int sign(int place) {
        if (!inRange(place, pad.length)) return NO_SUCH;
        return pad.signs[place];
    }

    public int count(int what) {
        switch (what) {
            case 0: return Finder.written(loom.texts);
            case 1: return loom.stack.size;
            case 2: return loom.clothLength;
            case 3: return sum(loom.woven);
            case 4: return loom.mostOnStack;
            case 5: return loom.calls;
            case 6: return loom.reason;
            case 7: return sum(loom.knots);
            case 8: return sum(loom.ells);
            case 9: return loom.settings[DEPTH];
            case 10: return loom.settings[STRAIN];
            case 11: return loom.settings[SHORT];
            case 12: return pad.length;
            case 13: return history.size;
            default: return BAD_VALUE;
        }
    }

    // ---- found without weaving; nothing changes

    public int picks(int card, int colour) {
        if (!inRange(card, CARDS)) return NO_SUCH;
        if (colour != NONE && !inRange(colour, COLOURS)) return BAD_VALUE;
        int trouble = Finder.troubleOf(loom.texts, card);
        return trouble != 0 ? trouble : finder.picksOf(loom.texts, card, colour);
    }

    public int depth(int card) {
        if (!inRange(card, CARDS)) return NO_SUCH;
        int trouble = Finder.troubleOf(loom.texts, card);
        return trouble != 0 ? trouble : finder.depthOf(loom.texts, card);
    }

    public int reaches(int card) {
        return inRange(card, CARDS) ? Finder.reachedFrom(loom.texts, card) : NO_SUCH;
    }

    // ---- what if; nothing changes

    public int stop(int what) {
        if (what < 0 || what > 2) return BAD_VALUE;
        trial.copyFrom(loom);
        int woven = trial.goOn(LOOKED_MOST);
        if (trial.reason == ALL_WOVEN) return NONE;
        if (what == 0) return woven;
        if (what == 1) return trial.reason;
        return trial.stack.size == 0 ? NONE : trial.stack.cards[trial.stack.size - 1];
    }

    public int ahead(int picks) {
        if (picks < 1 || picks > ASKED_MOST) return BAD_VALUE;
        trial.copyFrom(loom);
        int woven = trial.goOn(picks);
        if (woven < picks || trial.clothLength == 0) return NONE;
        return trial.cloth[trial.clothLength - 1];
    }

    // ---- texts

    public int put(long characters) {
        int many = Pad.charactersIn(characters);
        if (many == 0) return BAD_VALUE;
        if (many > PAD_MOST - pad.length) return TOO_MANY;
        pad.append(characters, many);
        return pad.length;
    }

    public int wipe() {
        int had = pad.length;
        pad.length = 0;
        return had;
    }

    public int fault() {
        return reader.faultOf(pad);
    }

    // ---- undo, saving

    public int undo() {
        if (history.size == 0) return NOT_POSSIBLE;
        history.takeBack(loom);
        return history.size;
    }

    public int save(int slot) {
        if (!inRange(slot, SLOTS)) return BAD_VALUE;
        if (slots[slot] == null) slots[slot] = new Loom();
        slots[slot].copyFrom(loom);
        return loom.clothLength;
    }

    public int restore(int slot) {
        if (!inRange(slot, SLOTS)) return BAD_VALUE;
        if (slots[slot] == null) return NOT_POSSIBLE;
        history.keep(loom);
        loom.copyFrom(slots[slot]);
        return loom.clothLength;
    }

    private static boolean inRange(int number, int end) {
        return number >= 0 && number < end;
    }

    private static int sum(int[] row) {
        int total = 0;
        for (int number : row) total += number;
        return total;
    }

    private static void copyRow(int[] from, int[] to) {
        System.arraycopy(from, 0, to, 0, Math.min(from.length, to.length));
    }

    private static void copyTexts(CardText[] from, CardText[] to) {
        int end = Math.min(from.length, to.length);
        for (int i = 0; i < end; i++) to[i] = from[i];
    }

    /** The text that put() and write() make, and from which cards are read. */
    private static final class Pad {
        private static final int FIRST_CODE = 33, LAST_CODE = 126, LONGEST = 8;

        final char[] signs = new char[PAD_MOST];
        int length = 0;

        /** How many characters the number tells, 0 if it is none that put() takes. */
        static int charactersIn(long characters) {
            long rest = characters;
            int many = 0;
            for (int i = 0; i < LONGEST && rest != 0; i++) {
                int code = (int) (rest & 255);
                if (code < FIRST_CODE || code > LAST_CODE) return 0;
                rest >>>= 8;
                many++;
            }
            return many;
        }

        void append(long characters, int many) {
            if (many < 0 || many > LONGEST || many > PAD_MOST - length) return;
            for (int i = 0; i < many; i++) {
                signs[length + i] = (char) ((characters >>> (8 * (many - 1 - i))) & 255);
            }
            length += many;
        }

        void takeOver(CardText text) {
            length = Math.min(text.length, PAD_MOST);
            System.arraycopy(text.signs, 0, signs, 0, length);
        }
    }

    /** A text without a fault; the rows tell, at the place of a step's letter, what the loom needs of that step. */
    private static final class CardText {
        final int length;
        final int steps;
        final int calls;
        final int nesting;
        final char[] signs;
        private final int[] times;
        private final int[] digits;
        private final int[] insides;
        private final int[] behinds;

        CardText(TextReader reader) {
            length = reader.length;
            steps = reader.steps;
            calls = reader.calls;
            nesting = reader.nesting;
            signs = new char[length];
            times = new int[length];
            digits = new int[length];
            insides = new int[length];
            behinds = new int[length];
            System.arraycopy(reader.signs, 0, signs, 0, length);
            System.arraycopy(reader.times, 0, times, 0, length);
            System.arraycopy(reader.digits, 0, digits, 0, length);
            System.arraycopy(reader.insides, 0, insides, 0, length);
            System.arraycopy(reader.behinds, 0, behinds, 0, length);
        }

        /** The code of the character at a place, 0 behind the end. */
        int signAt(int place) {
            return place >= 0 && place < length ? signs[place] : 0;
        }

        /** The count of a "w" or an "x", 1 for other steps. */
        int timesAt(int place) {
            return place >= 0 && place < length ? times[place] : 0;
        }

        /** The colour of a "c", or the card of a "k". */
        int digitAt(int place) {
            return place >= 0 && place < length ? digits[place] : 0;
        }

        /** Where the part of a step begins: behind its bracket. */
        int insideOf(int place) {
            return place >= 0 && place < length ? insides[place] : length;
        }

        /** The place behind a whole step with its part. */
        int behind(int place) {
            return place >= 0 && place < length ? behinds[place] : length;
        }
    }

    /** Reads a pad from left to right, and keeps what a card needs of it in rows that are used again. */
    private static final class TextReader {
        private static final int FIRST_STEP = 0, MORE = 1, MORE_OR_COUNT = 2, COUNT = 3, COLOUR = 4, DIGIT = 5,
                BRACKET = 6;

        final char[] signs = new char[PAD_MOST];
        final int[] times = new int[PAD_MOST];
        final int[] digits = new int[PAD_MOST];
        final int[] insides = new int[PAD_MOST];
        final int[] behinds = new int[PAD_MOST];
        int length, steps, calls, nesting;
        private final int[] opened = new int[NESTING_MOST];
        private int open, wanted, step;

        int faultOf(Pad pad) {
            length = 0;
            steps = 0;
            calls = 0;
            nesting = 0;
            open = 0;
            step = 0;
            wanted = FIRST_STEP;
            int end = Math.min(pad.length, PAD_MOST);
            for (int place = 0; place < end; place++) {
                if (!takes(pad.signs[place], place)) return place;
                signs[place] = pad.signs[place];
                length = place + 1;
            }
            boolean complete = open == 0 && (wanted == MORE || wanted == MORE_OR_COUNT);
            return complete ? NONE : end;
        }

        /** The text that faultOf() has read; only if it had no fault. */
        CardText readText() {
            return new CardText(this);
        }

        private boolean takes(int sign, int place) {
            switch (wanted) {
                case FIRST_STEP: return takesStep(sign, place);
                case MORE: return sign == ')' ? takesEnd(place) : takesStep(sign, place);
                case MORE_OR_COUNT:
                    if (isCount(sign)) return takesPickCount(sign, place);
                    return sign == ')' ? takesEnd(place) : takesStep(sign, place);
                case COUNT: return takesPartCount(sign);
                case COLOUR: return sign >= '0' && sign < '0' + COLOURS && takesDigit(sign, place);
                case DIGIT:
                    if (sign < '0' || sign >= '0' + CARDS) return false;
                    calls |= 1 << (sign - '0');
                    return takesDigit(sign, place);
                default: return takesBracket(sign, place);
            }
        }

        private boolean takesStep(int sign, int place) {
            switch (sign) {
                case 'w': wanted = MORE_OR_COUNT; break;
                case 'c': wanted = COLOUR; break;
                case 'k': wanted = DIGIT; break;
                case 'x': wanted = COUNT; break;
                case 's':
                case 'l': wanted = BRACKET; break;
                default: return false;
            }
            step = place;
            times[place] = 1;
            digits[place] = 0;
            insides[place] = place + 1;
            behinds[place] = place + 1;
            steps++;
            return true;
        }

        private static boolean isCount(int sign) {
            return sign >= '2' && sign <= '9';
        }

        private boolean takesPickCount(int sign, int place) {
            times[step] = sign - '0';
            behinds[step] = place + 1;
            wanted = MORE;
            return true;
        }

        private boolean takesPartCount(int sign) {
            if (!isCount(sign)) return false;
            times[step] = sign - '0';
            wanted = BRACKET;
            return true;
        }

        private boolean takesDigit(int sign, int place) {
            digits[step] = sign - '0';
            behinds[step] = place + 1;
            wanted = MORE;
            return true;
        }

        private boolean takesBracket(int sign, int place) {
            if (sign != '(' || open >= NESTING_MOST) return false;
            insides[step] = place + 1;
            opened[open] = step;
            open++;
            nesting = Math.max(nesting, open);
            wanted = FIRST_STEP;
            return true;
        }

        private boolean takesEnd(int place) {
            if (open <= 0) return false;
            open--;
            behinds[opened[open]] = place + 1;
            wanted = MORE;
            return true;
        }
    }

    /**
     * The cards that are at work, the last one on top. Each has a level for its text and one for each part in which
     * it is: the place of the step there, and how many of its times are left.
     */
    private static final class CardStack {
        private static final int LEVELS = NESTING_MOST + 1, ENDS_MOST = STACK_MOST * LEVELS;

        final int[] cards = new int[STACK_MOST];
        final int[] colours = new int[STACK_MOST];
        final int[] parts = new int[STACK_MOST];
        private final int[] places = new int[STACK_MOST * LEVELS];
        private final int[] left = new int[STACK_MOST * LEVELS];
        // A card is worked on by the text that it had when it came.
        private final CardText[] texts = new CardText[STACK_MOST];
        int size = 0;

        void copyFrom(CardStack other) {
            copyRow(other.cards, cards);
            copyRow(other.colours, colours);
            copyRow(other.parts, parts);
            copyRow(other.places, places);
            copyRow(other.left, left);
            copyTexts(other.texts, texts);
            size = other.size;
        }

        int timesOn(int card) {
            int times = 0;
            for (int i = 0; i < size; i++) {
                if (cards[i] == card) times++;
            }
            return times;
        }

        int placeOf(int index) {
            return inRange(index, size) ? places[spotOf(index)] : 0;
        }

        int topColour() {
            return size > 0 ? colours[size - 1] : 0;
        }

        /** The letter of the step at which the loom is, 0 if there is no card. */
        int stepLetter() {
            return size > 0 ? texts[size - 1].signAt(places[spotOf(size - 1)]) : 0;
        }

        int stepDigit() {
            return size > 0 ? texts[size - 1].digitAt(places[spotOf(size - 1)]) : 0;
        }

        void layOn(int card, CardText text, int colour) {
            if (text == null || size >= STACK_MOST) return;
            cards[size] = card;
            texts[size] = text;
            colours[size] = colour;
            parts[size] = 0;
            places[size * LEVELS] = 0;
            left[size * LEVELS] = text.timesAt(0);
            size++;
        }

        void dye(int colour) {
            if (size > 0) colours[size - 1] = colour;
        }

        /** One pick of a "w", or a whole other step; leaveEnds() is due then. */
        void passOver() {
            if (size == 0) return;
            int spot = spotOf(size - 1);
            if (stepLetter() == 'w' && left[spot] > 1) left[spot]--;
            else arriveAt(placeBehind());
        }

        void beginPart() {
            if (size == 0 || parts[size - 1] >= NESTING_MOST) return;
            int spot = spotOf(size - 1);
            left[spot]--;
            parts[size - 1]++;
            arriveAt(texts[size - 1].insideOf(places[spot]));
        }

        /** Leaves the parts and cards at whose end the loom is; each round leaves one of them. */
        void leaveEnds() {
            for (int i = 0; i < ENDS_MOST && size > 0; i++) {
                int sign = stepLetter();
                if (sign == ')' && parts[size - 1] > 0) {
                    parts[size - 1]--;
                    // An "x" with times left is the next step once more.
                    if (left[spotOf(size - 1)] <= 0) arriveAt(placeBehind());
                } else if (sign == 0) {
                    size--;
                    arriveAt(placeBehind());
                } else {
                    return;
                }
            }
        }

        private int placeBehind() {
            return size > 0 ? texts[size - 1].behind(places[spotOf(size - 1)]) : 0;
        }

        private void arriveAt(int place) {
            if (size == 0) return;
            int spot = spotOf(size - 1);
            places[spot] = place;
            left[spot] = texts[size - 1].timesAt(place);
        }

        private int spotOf(int index) {
            return index * LEVELS + parts[index];
        }
    }

    /** All that undo() takes back and save() keeps. */
    private static final class Loom {
        private static final int FIRST_DEPTH = 5, FIRST_STRAIN = 20, FIRST_SHORT = 10, FIRST_ELLS = 50;

        final CardText[] texts = new CardText[CARDS];
        final int[] begun = new int[CARDS];
        final int[] settings = new int[SETTINGS];
        final int[] ells = new int[COLOURS];
        final int[] strain = new int[COLOURS];
        final int[] knots = new int[COLOURS];
        final int[] woven = new int[COLOURS];
        final byte[] cloth = new byte[CLOTH_MOST];
        final CardStack stack = new CardStack();
        int clothLength = 0, mostOnStack = 0, calls = 0, reason = ALL_WOVEN;

        Loom() {
            settings[DEPTH] = FIRST_DEPTH;
            settings[STRAIN] = FIRST_STRAIN;
            settings[SHORT] = FIRST_SHORT;
            for (int colour = 0; colour < COLOURS; colour++) ells[colour] = FIRST_ELLS;
        }

        void copyFrom(Loom other) {
            copyTexts(other.texts, texts);
            copyRow(other.begun, begun);
            copyRow(other.settings, settings);
            copyRow(other.ells, ells);
            copyRow(other.strain, strain);
            copyRow(other.knots, knots);
            copyRow(other.woven, woven);
            clothLength = Math.min(other.clothLength, CLOTH_MOST);
            System.arraycopy(other.cloth, 0, cloth, 0, clothLength);
            stack.copyFrom(other.stack);
            mostOnStack = other.mostOnStack;
            calls = other.calls;
            reason = other.reason;
        }

        int beginWith(int card) {
            int had = stack.size;
            stack.size = 0;
            layOnStack(card, 0);
            return had;
        }

        private void layOnStack(int card, int colour) {
            stack.layOn(card, texts[card], colour);
            begun[card]++;
            mostOnStack = Math.max(mostOnStack, stack.size);
        }

        int tieThread(int colour, int more) {
            ells[colour] = Math.min(ELLS_MOST, ells[colour] + more);
            strain[colour] = 0;
            knots[colour]++;
            return ells[colour];
        }

        /** Weaves until so many picks are woven or the loom stops; returns how many are woven. */
        int goOn(int asked) {
            for (int done = 0; done < asked; done++) {
                reason = weaveNext();
                if (reason != ALL_WOVEN) return done;
            }
            return asked;
        }

        /** Goes on until one pick is woven; returns the reason if the loom stops ahead of it. */
        private int weaveNext() {
            for (int steps = 0; steps <= STEPS_MOST; steps++) {
                int hindrance = hindranceAfter(steps);
                if (hindrance != ALL_WOVEN) return hindrance;
                int letter = stack.stepLetter();
                if (letter == 'w') weavePick();
                else doStep(letter);
                stack.leaveEnds();
                if (letter == 'w') return ALL_WOVEN;
            }
            return TOO_MANY_STEPS;
        }

        private int hindranceAfter(int steps) {
            if (stack.size == 0) return OVER;
            int letter = stack.stepLetter();
            if (letter == 'w') {
                int colour = stack.topColour();
                if (ells[colour] == 0) return NO_ELLS;
                if (strain[colour] >= settings[STRAIN]) return KNOT_DUE;
                if (clothLength >= CLOTH_MOST) return CLOTH_FULL;
            }
            if (letter == 'k') {
                if (texts[stack.stepDigit()] == null) return NO_TEXT;
                if (stack.size >= settings[DEPTH]) return STACK_FULL;
            }
            return steps >= STEPS_MOST ? TOO_MANY_STEPS : ALL_WOVEN;
        }

        private void weavePick() {
            int colour = stack.topColour();
            ells[colour]--;
            strain[colour]++;
            woven[colour]++;
            cloth[clothLength] = (byte) colour;
            clothLength++;
            stack.passOver();
        }

        private void doStep(int letter) {
            switch (letter) {
                case 'c':
                    stack.dye(stack.stepDigit());
                    stack.passOver();
                    break;
                case 'k':
                    calls++;
                    layOnStack(stack.stepDigit(), stack.topColour());
                    break;
                case 'x':
                    stack.beginPart();
                    break;
                default:
                    if (isShort(stack.topColour()) == (letter == 's')) stack.beginPart();
                    else stack.passOver();
            }
        }

        private boolean isShort(int colour) {
            return ells[colour] < settings[SHORT];
        }

        int clothPicks(int colour) {
            int picks = 0;
            for (int i = 0; i < clothLength; i++) {
                if (cloth[i] == colour) picks++;
            }
            return picks;
        }

        int longestRow(int colour) {
            int longest = 0;
            int row = 0;
            for (int i = 0; i < clothLength; i++) {
                row = cloth[i] == colour ? row + 1 : 0;
                longest = Math.max(longest, row);
            }
            return longest;
        }

        /** How many colours come ahead of a colour by the ells of their threads. */
        int endRank(int colour) {
            int rank = 0;
            for (int other = 0; other < COLOURS; other++) {
                boolean fewer = ells[other] < ells[colour];
                if (fewer || (ells[other] == ells[colour] && other < colour)) rank++;
            }
            return rank;
        }

        /** How many colours come ahead of a colour by their picks of the cloth. */
        int clothRank(int colour) {
            int own = clothPicks(colour);
            int rank = 0;
            for (int other = 0; other < COLOURS; other++) {
                int picks = clothPicks(other);
                if (picks > own || (picks == own && other < colour)) rank++;
            }
            return rank;
        }
    }

    /** The states before the latest changes, the oldest one first. */
    private static final class History {
        private static final int STATES = 6;

        private final Loom[] states = new Loom[STATES];
        int size = 0;

        History() {
            for (int i = 0; i < STATES; i++) states[i] = new Loom();
        }

        void keep(Loom loom) {
            if (size == STATES) dropOldest();
            states[size].copyFrom(loom);
            size++;
        }

        private void dropOldest() {
            Loom oldest = states[0];
            for (int i = 1; i < STATES; i++) states[i - 1] = states[i];
            // The oldest one is kept behind the others, to be used again.
            states[STATES - 1] = oldest;
            size = STATES - 1;
        }

        void takeBack(Loom loom) {
            if (size == 0) return;
            size--;
            loom.copyFrom(states[size]);
        }
    }

    /** What the texts of the cards tell without weaving. */
    private static final class Finder {
        private final int[] heights = new int[CARDS];
        // The picks of each card for each colour with which it may begin.
        private final int[] woven = new int[CARDS * COLOURS];

        static int written(CardText[] texts) {
            int found = 0;
            for (int card = 0; card < CARDS; card++) {
                if (texts[card] != null) found |= 1 << card;
            }
            return found;
        }

        static int callersOf(CardText[] texts, int card) {
            int found = 0;
            for (int caller = 0; caller < CARDS; caller++) {
                if (holds(calledBy(texts, caller), card)) found |= 1 << caller;
            }
            return found;
        }

        private static int calledBy(CardText[] texts, int card) {
            return texts[card] == null ? 0 : texts[card].calls;
        }

        private static boolean holds(int cards, int card) {
            return (cards >> card & 1) == 1;
        }

        static int reachedFrom(CardText[] texts, int card) {
            int reached = calledBy(texts, card);
            // Each round goes one call further, and there are no longer ways than over all cards.
            for (int round = 0; round < CARDS; round++) {
                for (int other = 0; other < CARDS; other++) {
                    if (holds(reached, other)) reached |= calledBy(texts, other);
                }
            }
            return reached;
        }

        /** NOT_POSSIBLE or NONE if picks and depth cannot be told of a card, 0 if they can. */
        static int troubleOf(CardText[] texts, int card) {
            int all = reachedFrom(texts, card) | 1 << card;
            if ((all & ~written(texts)) != 0) return NOT_POSSIBLE;
            for (int other = 0; other < CARDS; other++) {
                if (holds(all, other) && holds(reachedFrom(texts, other), other)) return NONE;
            }
            return 0;
        }

        int depthOf(CardText[] texts, int card) {
            for (int other = 0; other < CARDS; other++) heights[other] = 1;
            for (int round = 0; round < CARDS; round++) {
                for (int caller = 0; caller < CARDS; caller++) {
                    heights[caller] = 1 + highestOf(calledBy(texts, caller));
                }
            }
            return heights[card];
        }

        private int highestOf(int cards) {
            int highest = 0;
            for (int card = 0; card < CARDS; card++) {
                if (holds(cards, card)) highest = Math.max(highest, heights[card]);
            }
            return highest;
        }

        /** Only for a card without trouble; wanted is a colour, or NONE for all. */
        int picksOf(CardText[] texts, int card, int wanted) {
            int all = reachedFrom(texts, card) | 1 << card;
            int ready = 0;
            // A card is weighed when all that it calls are; each round makes at least one ready.
            for (int round = 0; round < CARDS; round++) {
                for (int other = 0; other < CARDS; other++) {
                    boolean due = holds(all, other) && !holds(ready, other);
                    if (due && (calledBy(texts, other) & ~ready) == 0) {
                        weighCard(texts[other], other, wanted);
                        ready |= 1 << other;
                    }
                }
            }
            return woven[card * COLOURS];
        }

        private void weighCard(CardText text, int card, int wanted) {
            if (text == null) return;
            for (int colour = 0; colour < COLOURS; colour++) {
                woven[card * COLOURS + colour] = weigh(text, 0, colour, wanted, woven, 0);
            }
        }

        /** The picks of the steps from a place to the end of their part; level guards the recursion. */
        private static int weigh(CardText text, int from, int begun, int wanted, int[] woven, int level) {
            if (level > NESTING_MOST) return 0;
            int picks = 0;
            int colour = begun;
            int place = from;
            for (int i = 0; i < PAD_MOST; i++) {
                int letter = text.signAt(place);
                if (letter == 0 || letter == ')') break;
                int inside = text.insideOf(place);
                switch (letter) {
                    case 'w':
                        if (wanted == NONE || wanted == colour) picks += text.timesAt(place);
                        break;
                    case 'c':
                        colour = text.digitAt(place);
                        break;
                    case 'k':
                        picks += woven[text.digitAt(place) * COLOURS + colour];
                        break;
                    case 'x':
                        picks += weigh(text, inside, colour, wanted, woven, level + 1);
                        // From the second time on the part begins with the colour that it ends with.
                        colour = colourBehind(text, inside, colour);
                        picks += (text.timesAt(place) - 1) * weigh(text, inside, colour, wanted, woven, level + 1);
                        break;
                    case 'l':
                        picks += weigh(text, inside, colour, wanted, woven, level + 1);
                        colour = colourBehind(text, inside, colour);
                        break;
                    default:
                        // An "s": no thread is short.
                }
                picks = Math.min(picks, TOLD_MOST);
                place = text.behind(place);
            }
            return picks;
        }

        /** The colour at the end of the part that begins at a place, if no thread is short. */
        private static int colourBehind(CardText text, int from, int begun) {
            int colour = begun;
            int place = from;
            int open = 0;
            for (int i = 0; i < PAD_MOST; i++) {
                int letter = text.signAt(place);
                if (letter == 0 || (letter == ')' && open == 0)) break;
                if (letter == 'c') colour = text.digitAt(place);
                if (letter == ')') {
                    open--;
                    place++;
                } else if (letter == 'x' || letter == 'l') {
                    open++;
                    place = text.insideOf(place);
                } else {
                    place = text.behind(place);
                }
            }
            return colour;
        }
    }
}
