/** Counts answers that are due, and tells those that are not. */
final class Checks {
    static final int BAD = -1, NO = -2, FULL = -3, NONE = -4;
    static final int LEAST = Integer.MIN_VALUE, MOST = Integer.MAX_VALUE;

    private int right;
    private int wrong;

    void due(String call, Object got, Object want) {
        if (got.equals(want)) {
            right++;
        } else {
            wrong++;
            System.out.println(call + " answered " + got + ", due is " + want);
        }
    }

    /** Every one of these answers is BAD. */
    void bad(String call, int... answers) {
        for (int i = 0; i < answers.length; i++) {
            due(call + " " + i, answers[i], BAD);
        }
    }

    void end() {
        System.out.println(right + " answers are as due, " + wrong + " are not");
        if (wrong > 0 || right == 0) {
            System.exit(1);
        }
    }

    static void write(FamineOfVerbs x, String text) {
        for (char letter : text.toCharArray()) {
            x.write(letter);
        }
    }

    static FamineOfVerbs laid(String text) {
        FamineOfVerbs x = new FamineOfVerbs();
        write(x, text);
        if (x.lay() < 1) {
            throw new IllegalStateException("not laid: " + text);
        }
        return x;
    }

    /** All that can be seen of an object and that a refused call must leave alone. */
    static String stateOf(FamineOfVerbs x) {
        StringBuilder seen = new StringBuilder();
        for (int what = 0; what <= 9; what++) {
            seen.append(x.count(what)).append(' ');
        }
        for (int t = 0; t < x.count(2); t++) {
            seen.append("| ").append(x.village(t, 1)).append(' ');
            for (int v = 0; v < x.count(0); v++) {
                seen.append(x.stock(t, v)).append(' ');
            }
        }
        for (int w = 0; w < x.count(3); w++) {
            seen.append("/ ").append(x.work(w, 3)).append(' ').append(x.work(w, 4)).append(' ');
        }
        return seen.toString();
    }
}
