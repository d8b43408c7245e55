import java.util.ArrayList;
import java.util.List;

/**
 * A run of calls on a new loom, written as rows of a text: calls stand between ";", and behind "=" stands the answer
 * that is due, if it is looked at. Beside the calls of the document there are
 *
 * <pre>
 *   type TEXT          puts a text into the pad
 *   give CARD TEXT     empties the pad, and gives a text to a card
 *   start TEXT         gives a text to card 0, and begins with it
 *   often N CALL       does a call so many times
 *   pad = TEXT         the text of the pad ("-" if it is empty)
 *   cloth = COLOURS    the colours of the cloth ("-" if it has no picks)
 *   look               keeps all that can be asked about the state, without the pad, the slots and the history
 *   same               compares that with the state now
 * </pre>
 */
final class Script {
    /** Rows that fill the cloth with picks of colour 0; its thread has 50 ells left then, and its strain is 4. */
    static final String FULL_CLOTH = "start x9(x9(w9)) ; set 1 99 ; tie 0 99 ; weave 99 ; tie 0 99 ; weave 99"
        + " ; tie 0 99 ; weave 99 ; tie 0 99 ; weave 99 ; tie 0 4 ; weave 4 = 4";

    private static final int CALLS_MOST = 512;
    private static final int CARDS = 10, COLOURS = 6, COUNTS = 12, ABOUT_CARD = 7, ABOUT_STACK = 4, ABOUT_COLOUR = 6;

    private final String sentence;
    private final CallingLooms loom = new CallingLooms();
    private int calls = 0;
    private List<Integer> seen = new ArrayList<>();

    private Script(String sentence) {
        this.sentence = sentence;
    }

    /** Plays one run; the sentence of the document that it tests is told with each wrong answer. */
    static void run(String sentence, String... rows) {
        Script script = new Script(sentence);
        for (String row : rows) {
            for (String part : row.split(" ; ")) script.play(part.trim());
        }
        if (script.calls > CALLS_MOST) Checks.due(sentence + ": calls of the run", script.calls, CALLS_MOST);
    }

    private void play(String part) {
        String[] sides = part.split(" = ", 2);
        String[] words = sides[0].trim().split(" +");
        String want = sides.length > 1 ? sides[1].trim() : null;
        switch (words[0]) {
            case "type": type(words[1]); break;
            case "give": give(number(words[1]), words[2]); break;
            case "start":
                give(0, words[1]);
                ask("begin", 0);
                break;
            case "often": often(words); break;
            case "pad": dueText(part, pad(), want); break;
            case "cloth": dueText(part, cloth(), want); break;
            case "look": seen = readOut(); break;
            case "same": dueSame(); break;
            default:
                long got = ask(words[0], numbers(words, 1));
                if (want != null) Checks.due(sentence + ": " + part, got, number(want));
        }
    }

    private void often(String[] words) {
        long many = number(words[1]);
        for (long i = 0; i < many; i++) ask(words[2], numbers(words, 3));
    }

    private static long[] numbers(String[] words, int from) {
        long[] numbers = new long[words.length - from];
        for (int i = 0; i < numbers.length; i++) numbers[i] = number(words[from + i]);
        return numbers;
    }

    private static long number(String word) {
        switch (word) {
            case "NO_SUCH": return -1;
            case "BAD_VALUE": return -2;
            case "BAD_TEXT": return -3;
            case "TOO_MANY": return -4;
            case "NOT_POSSIBLE": return -5;
            case "NONE": return -6;
            case "MIN": return Integer.MIN_VALUE;
            case "MAX": return Integer.MAX_VALUE;
            default: return word.startsWith("0x") ? Long.parseUnsignedLong(word.substring(2), 16) : Long.parseLong(word);
        }
    }

    private void type(String text) {
        for (int i = 0; i < text.length(); i += 8) {
            ask("put", Checks.number(text.substring(i, Math.min(i + 8, text.length()))));
        }
    }

    private void give(long card, String text) {
        ask("wipe");
        type(text);
        if (ask("card", card) < 0) Checks.due(sentence + ": card(" + card + ") with " + text, -1, 0);
    }

    private void dueText(String part, String got, String want) {
        if (!got.equals(want)) Checks.due(sentence + ": " + part + " (it is " + got + ")", 1, 0);
    }

    private String pad() {
        long length = ask("count", 12);
        StringBuilder text = new StringBuilder();
        for (int i = 0; i < length; i++) text.append((char) ask("sign", i));
        return length == 0 ? "-" : text.toString();
    }

    private String cloth() {
        long length = ask("count", 2);
        StringBuilder text = new StringBuilder();
        for (int i = 0; i < length; i++) text.append(ask("pick", i));
        return length == 0 ? "-" : text.toString();
    }

    private List<Integer> readOut() {
        List<Integer> answers = new ArrayList<>();
        for (int what = 0; what < COUNTS; what++) answers.add((int) ask("count", what));
        for (int card = 0; card < CARDS; card++) {
            for (int what = 0; what < ABOUT_CARD; what++) answers.add((int) ask("of", card, what));
        }
        for (int rank = 0; rank < answers.get(1); rank++) {
            for (int what = 0; what < ABOUT_STACK; what++) answers.add((int) ask("stack", rank, what));
        }
        for (int colour = 0; colour < COLOURS; colour++) {
            for (int what = 0; what < ABOUT_COLOUR; what++) answers.add((int) ask("thread", colour, what));
        }
        for (int pick = 0; pick < answers.get(2); pick++) answers.add((int) ask("pick", pick));
        return answers;
    }

    private void dueSame() {
        List<Integer> now = readOut();
        Checks.due(sentence + ": numbers of the state", now.size(), seen.size());
        for (int i = 0; i < Math.min(now.size(), seen.size()); i++) {
            Checks.due(sentence + ": number " + i + " of the state", now.get(i), seen.get(i));
        }
    }

    private long ask(String name, long... given) {
        calls++;
        int first = given.length > 0 ? (int) given[0] : 0;
        int second = given.length > 1 ? (int) given[1] : 0;
        switch (name) {
            case "set": return loom.set(first, second);
            case "card": return loom.card(first);
            case "blank": return loom.blank(first);
            case "begin": return loom.begin(first);
            case "weave": return loom.weave(first);
            case "skip": return loom.skip();
            case "tie": return loom.tie(first, second);
            case "cut": return loom.cut();
            case "of": return loom.of(first, second);
            case "stack": return loom.stack(first, second);
            case "thread": return loom.thread(first, second);
            case "pick": return loom.pick(first);
            case "byEnd": return loom.byEnd(first);
            case "byCloth": return loom.byCloth(first);
            case "write": return loom.write(first);
            case "sign": return loom.sign(first);
            case "count": return loom.count(first);
            case "picks": return loom.picks(first, second);
            case "depth": return loom.depth(first);
            case "reaches": return loom.reaches(first);
            case "stop": return loom.stop(first);
            case "ahead": return loom.ahead(first);
            case "put": return loom.put(given[0]);
            case "wipe": return loom.wipe();
            case "fault": return loom.fault();
            case "undo": return loom.undo();
            case "save": return loom.save(first);
            case "restore": return loom.restore(first);
            default: throw new IllegalArgumentException("no such call: " + name);
        }
    }
}
