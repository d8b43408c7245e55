/** Counts the answers that are not the ones that are due, and prints them. */
final class Checks {
    private static int wrong = 0;

    private Checks() {
    }

    static void due(String call, long got, long want) {
        if (got == want) return;
        wrong++;
        System.out.println(call + " answered " + got + ", due is " + want);
    }

    /** Ends the program with exit code 1 if an answer was wrong. */
    static void end(String name) {
        System.out.println(name + ": " + (wrong == 0 ? "all answers are as due" : wrong + " answers are not as due"));
        if (wrong != 0) System.exit(1);
    }

    /** Up to 8 characters as put() takes them. */
    static long number(String characters) {
        long number = 0;
        for (int i = 0; i < characters.length(); i++) number = number << 8 | characters.charAt(i);
        return number;
    }

    /** Puts a text of any length behind what the pad has. */
    static void type(CallingLooms loom, String text) {
        for (int i = 0; i < text.length(); i += 8) {
            loom.put(number(text.substring(i, Math.min(i + 8, text.length()))));
        }
    }

    /** Gives a text to a card; the pad is empty before and afterwards. */
    static void give(CallingLooms loom, int card, String text) {
        loom.wipe();
        type(loom, text);
        if (loom.card(card) < 0) due("card(" + card + ") with " + text, -1, 0);
    }

    static String padOf(CallingLooms loom) {
        StringBuilder text = new StringBuilder();
        int length = loom.count(12);
        for (int i = 0; i < length; i++) text.append((char) loom.sign(i));
        return text.toString();
    }
}
