/** Counts checks and tells each answer that is not the one that is due. */
final class Checks {
    private int done = 0;
    private int wrong = 0;

    void due(String what, long got, long want) {
        done++;
        if (got != want) {
            wrong++;
            System.out.println(what + " answered " + got + ", due is " + want);
        }
    }

    void due(String what, boolean got, boolean want) {
        due(what, got ? 1 : 0, want ? 1 : 0);
    }

    /** Ends the program: with 1 if an answer was wrong or nothing was checked. */
    void finish() {
        System.out.println(done + " checks, " + wrong + " wrong");
        System.exit(wrong == 0 && done > 0 ? 0 : 1);
    }

    /** Puts the text on the TAPE, which must be empty. */
    static void feed(BasketEnvoys x, String text) {
        int[] numbers = new int[5];
        for (int from = 0; from < text.length(); from += 20) {
            for (int i = 0; i < 5; i++) {
                int number = 0;
                for (int j = 0; j < 4; j++) {
                    int at = from + 4 * i + j;
                    number = number << 8 | (at < text.length() ? text.charAt(at) : ' ');
                }
                numbers[i] = number;
            }
            x.feed(numbers[0], numbers[1], numbers[2], numbers[3], numbers[4]);
        }
        x.end(text.length());
    }

    /** Tells TEXT k by way of the TAPE. */
    static int tell(BasketEnvoys x, int k, String text) {
        feed(x, text);
        return x.text(k);
    }

    /** Tells TEXT k and checks how many lines it has, with no fault. */
    void told(BasketEnvoys x, int k, String text, int lines) {
        due("text " + k + ": " + text, tell(x, k, text), lines);
        due("fault of " + text, x.fault(0), 0);
        due("place of " + text, x.fault(1), -1);
    }

    /** Tells TEXT k and checks its fault and the fault's place. */
    void refused(BasketEnvoys x, int k, String text, int fault, int place) {
        due("text " + k + ": " + text, tell(x, k, text), -1);
        due("fault of " + text, x.fault(0), fault);
        due("place of " + text, x.fault(1), place);
        due("tape behind " + text, x.end(1), false);
    }
}
