/** Counts answers that are due, and tells those that are not. */
final class Checks {
    static final int BAD = -1, NO = -2, FULL = -3, NONE = -4;
    static final int LEAST = Integer.MIN_VALUE, MOST = Integer.MAX_VALUE;

    private int right;
    private int wrong;
    private int sentences;
    private int rightAtSentence;
    private String sentence = "";

    /** What follows looks at this sentence of the document, "" for none: one without an answer is wrong. */
    void sentence(String words) {
        if (!sentence.isEmpty() && right == rightAtSentence) {
            wrong++;
            System.out.println("no right answer to: " + sentence);
        }
        sentence = words;
        sentences += words.isEmpty() ? 0 : 1;
        rightAtSentence = right;
    }

    void due(String call, Object got, Object want) {
        if (got.equals(want)) {
            right++;
        } else {
            wrong++;
            System.out.println(call + " answered " + got + ", due is " + want
                    + (sentence.isEmpty() ? "" : ", by: " + sentence));
        }
    }

    /** Every one of these answers is BAD. */
    void bad(String call, int... answers) {
        for (int i = 0; i < answers.length; i++) {
            due(call + " " + i, answers[i], BAD);
        }
    }

    void end() {
        sentence("");
        System.out.println(right + " answers are as due, " + wrong + " are not"
                + (sentences > 0 ? "; " + sentences + " sentences" : ""));
        if (wrong > 0 || right == 0) {
            System.exit(1);
        }
    }

    static void write(FamineOfVerbs x, String text) {
        for (char letter : text.toCharArray()) {
            x.write(letter);
        }
    }

    static FamineOfVerbs laid(String text) {
        FamineOfVerbs x = new FamineOfVerbs();
        write(x, text);
        if (x.lay() < 1) {
            throw new IllegalStateException("not laid: " + text);
        }
        return x;
    }

    static FamineOfVerbs written(String text) {
        FamineOfVerbs x = new FamineOfVerbs();
        write(x, text);
        return x;
    }

    /** All that can be seen of an object and that a refused call must leave alone. */
    static String stateOf(FamineOfVerbs x) {
        StringBuilder seen = new StringBuilder();
        for (int what = 0; what <= 9; what++) {
            seen.append(x.count(what)).append(' ');
        }
        return seen.append(standingOf(x)).toString();
    }

    /** What SEASONS, GIVING and SOWING change. */
    static String standingOf(FamineOfVerbs x) {
        StringBuilder seen = new StringBuilder();
        for (int t = 0; t < x.count(2); t++) {
            seen.append("| ").append(x.village(t, 1)).append(' ');
            for (int v = 0; v < x.count(0); v++) {
                seen.append(x.stock(t, v)).append(' ');
            }
        }
        for (int w = 0; w < x.count(3); w++) {
            seen.append("/ ").append(x.work(w, 3)).append(' ').append(x.work(w, 4)).append(' ');
        }
        return seen.toString();
    }
}
