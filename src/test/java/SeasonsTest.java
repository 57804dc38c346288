/** Promises 11 to 14: SEASONS that go by, VERBS GIVEN, SOWN, UNDONE. */
public final class SeasonsTest {
    private static final Checks CHECKS = new Checks();
    private static final int LEAST = Checks.LEAST, MOST = Checks.MOST;

    private static void due(String call, int got, int want) {
        CHECKS.due(call, got, want);
    }

    private static void stocksBehindSeasons(String text, int v, int... wants) {
        FamineOfVerbs x = Checks.laid(text);
        for (int i = 0; i < wants.length; i++) {
            due("season of " + text, x.pass(1), i + 1);
            due("stock behind " + (i + 1) + " of " + text, x.stock(0, v), wants[i]);
        }
    }

    private static void kinds() {
        stocksBehindSeasons("v0,0;t0;s0,0,3;w0,0,1;", 0, 2, 1, 0, 0);
        stocksBehindSeasons("v1,0;t0;s0,0,2;w0,0,1;", 0, 2, 1, 1, 0, 0);
        stocksBehindSeasons("v2,0;t0;s0,0,2;w0,0,1;w0,0,2;", 0, 0, 0);
        stocksBehindSeasons("v3,0;t0;s0,0,6;w0,0,1;", 0, 4, 2, 0, 0);
        stocksBehindSeasons("v3,0;t0;s0,0,5;w0,0,1;", 0, 3, 1, 0, 0);
        stocksBehindSeasons("v3,0;t0;s0,0,3;w0,0,1;w0,0,1;", 0, 0, 0);
    }

    private static void doneAndForgotten() {
        FamineOfVerbs x = Checks.laid("v0,0;v1,0;v3,0;t0;s0,0,1;s0,1,1;s0,2,3;w0,0,1;w0,0,2;w0,1,3;w0,1,4;w0,2,5;w0,2,6;");
        due("pass", x.pass(2), 2);
        int[] done = {1, 0, 2, 1, 1, 1};
        for (int w = 0; w < done.length; w++) {
            due("done " + w, x.work(w, 3), done[w]);
            due("forgotten " + w, x.work(w, 4), 2 - done[w]);
        }
    }

    private static void doneByNouns() {
        FamineOfVerbs x = Checks.laid("v0,0;v0,0;t1;t0;n1;s0,0,1;s1,0,1;w0,0,5;w1,0,5;w0,1,5;");
        due("pass", x.pass(10), 10);
        due("by stock, then by nouns", x.work(0, 3), 10);
        due("the verb is used first", x.stock(0, 0), 0);
        due("no noun there", x.work(1, 3), 1);
        due("a verb that cannot be said", x.work(2, 4), 10);
        CHECKS.bad("pass", x.pass(0), x.pass(11), x.pass(-1), x.pass(LEAST), x.pass(MOST));
        due("seasons", x.count(4), 10);
    }

    private static void crops() {
        FamineOfVerbs x = Checks.laid("v0,9;v2,9;v2,2;v1,0;t0;s0,0,30;s0,1,20;s0,2,1;s0,3,30;");
        due("sow plain", x.sow(0, 0), 29);
        due("field", x.village(0, 1), 0);
        x.pass(1);
        due("plain crop", x.stock(0, 0), 38);
        due("field is free", x.village(0, 1), Checks.NONE);
        due("sow seed", x.sow(0, 1), 19);
        x.pass(1);
        due("seed crop", x.stock(0, 1), 37);
        due("sow the last one", x.sow(0, 2), 0);
        x.pass(1);
        due("small seed crop", x.stock(0, 2), 4);
        due("sow without a crop", x.sow(0, 3), 29);
        x.pass(1);
        due("no crop", x.stock(0, 3), 29);
        x.pass(1);
        due("no crop again", x.stock(0, 3), 29);
    }

    private static void locusts() {
        FamineOfVerbs x = Checks.laid("v0,9;v2,9;t0;t0;s0,0,30;s0,1,30;s1,0,30;");
        x.give(1, 0, 0, 10);
        due("forty", x.stock(0, 0), 40);
        x.pass(1);
        due("forty lose four", x.stock(0, 0), 36);
        x.give(1, 0, 0, 3);
        x.pass(1);
        due("thirty-nine lose none", x.stock(0, 0), 39);
        x.sow(0, 1);
        x.pass(1);
        due("seed 29 + 18 = 47 lose 4", x.stock(0, 1), 43);
        x.sow(0, 1);
        x.pass(1);
        due("seed 42 + 18 = 60 lose 6", x.stock(0, 1), 54);
        x.sow(0, 1);
        x.pass(1);
        due("60 at most, then 6 less", x.stock(0, 1), 54);
        x.sow(0, 0);
        x.pass(1);
        due("plain 38 + 9 = 47 lose 4", x.stock(0, 0), 43);
        due("the other one alone", x.stock(0, 1), 49);
    }

    private static void giving() {
        FamineOfVerbs x = Checks.laid("v0,0;t0;t0;t0;s0,0,30;s1,0,30;s2,0,10;");
        String before = Checks.stateOf(x);
        CHECKS.bad("give", x.give(0, 0, 0, 1), x.give(3, 0, 0, 1), x.give(0, 3, 0, 1), x.give(0, 1, 1, 1),
                x.give(0, 1, 0, 0), x.give(0, 1, 0, 61), x.give(-1, 0, 0, 1), x.give(0, -1, 0, 1),
                x.give(0, 1, -1, 1), x.give(LEAST, 1, 0, 1), x.give(0, MOST, 0, 1), x.give(0, 1, MOST, 1),
                x.give(0, 1, 0, LEAST), x.give(0, 1, 0, MOST));
        due("one more than there are", x.give(0, 1, 0, 31), Checks.NO);
        CHECKS.due("refused", Checks.stateOf(x), before);
        due("all of it", x.give(0, 1, 0, 30), 60);
        due("none is left", x.stock(0, 0), 0);
        before = Checks.stateOf(x);
        due("above 60", x.give(2, 1, 0, 1), Checks.FULL);
        due("NO ahead of FULL", x.give(2, 1, 0, 11), Checks.NO);
        due("BAD ahead of all", x.give(2, 1, 0, 61), Checks.BAD);
        CHECKS.due("refused again", Checks.stateOf(x), before);
        due("sixty at once", x.give(1, 0, 0, 60), 60);
        due("given", x.count(7), 2);
    }

    private static void sowing() {
        FamineOfVerbs x = Checks.laid("v0,3;v1,1;v1,1;v3,2;t0;t0;t0;t0;s0,1,1;s0,2,5;s1,1,1;s1,2,1;s1,0,9;s2,1,2;s2,2,2;s3,1,1;s3,3,9;");
        String before = Checks.stateOf(x);
        CHECKS.bad("sow", x.sow(4, 0), x.sow(0, 4), x.sow(-1, 0), x.sow(0, -1), x.sow(LEAST, 0), x.sow(0, MOST));
        due("one small of each kind is too few", x.sow(1, 3), Checks.NO);
        due("holy ones are not small", x.sow(3, 0), Checks.NO);
        CHECKS.due("refused", Checks.stateOf(x), before);
        due("bred from the second small one", x.sow(0, 0), 0);
        due("the first one stays", x.stock(0, 1), 1);
        due("two of the second", x.stock(0, 2), 3);
        due("sown", x.village(0, 1), 0);
        before = Checks.stateOf(x);
        due("the field is not free", x.sow(0, 2), Checks.NO);
        CHECKS.due("refused again", Checks.stateOf(x), before);
        due("bred from the lowest", x.sow(2, 3), 0);
        due("lowest is used", x.stock(2, 1), 0);
        due("the other stays", x.stock(2, 2), 2);
        due("a small one from itself", x.sow(1, 1), 0);
        due("a holy one from itself", x.sow(3, 3), 8);
        x.pass(1);
        due("crop of the bred", x.stock(0, 0), 3);
        due("crop of the holy", x.stock(3, 3), 10);
        due("sow again", x.sow(0, 0), 2);
    }

    private static void sowingFromSmall() {
        FamineOfVerbs lowest = Checks.laid("v1,1;v1,1;v0,4;t0;s0,0,2;s0,1,2;");
        due("bred from verb 0", lowest.sow(0, 2), 0);
        due("all of it", lowest.stock(0, 0), 0);
        FamineOfVerbs x = Checks.laid("v1,1;v1,1;t0;s0,1,2;");
        due("a small one from another one", x.sow(0, 0), 0);
        due("two of it", x.stock(0, 1), 0);
        x.pass(1);
        due("grown", x.stock(0, 0), 1);
    }

    private static void undoing() {
        FamineOfVerbs x = Checks.laid("v0,5;v1,2;t0;t0;s0,0,20;s0,1,9;w0,0,3;w0,1,4;w1,0,5;");
        due("nothing to undo", x.undo(), Checks.NO);
        String[] seen = new String[12];
        for (int i = 0; i < 9; i++) {
            seen[i] = Checks.stateOf(x).replaceFirst("^(\\S+ \\S+ \\S+ \\S+ \\S+ \\S+ \\S+) \\S+", "$1 U");
            if (i % 3 == 0) {
                x.pass(1 + i % 2 * 2);
            } else if (i % 3 == 1) {
                x.give(0, 1, 0, 1);
            } else {
                x.sow(0, i % 2);
            }
            due("can be undone", x.count(7), Math.min(8, i + 1));
        }
        for (int i = 8; i >= 1; i--) {
            due("undo", x.undo(), i - 1);
            CHECKS.due("undone " + i,
                    Checks.stateOf(x).replaceFirst("^(\\S+ \\S+ \\S+ \\S+ \\S+ \\S+ \\S+) \\S+", "$1 U"), seen[i]);
        }
        String before = Checks.stateOf(x);
        due("no more", x.undo(), Checks.NO);
        CHECKS.due("refused", Checks.stateOf(x), before);
    }

    private static void undoingParts() {
        FamineOfVerbs x = Checks.laid("v1,0;t0;t0;s0,0,9;w0,0,3;");
        x.pass(7);
        x.pass(2);
        due("two steps", x.count(7), 2);
        due("undo of two seasons", x.undo(), 1);
        due("seven are left", x.count(4), 7);
        due("odd season again", x.pass(1), 8);
        due("stock", x.stock(0, 0), 5);
        x.hear(0, 1, true);
        x.keep();
        x.write('v');
        due("undo", x.undo(), 1);
        due("heard stays", x.count(6), 1);
        due("kept stays", x.count(8), 1);
        due("the text stays", x.count(9), 26);
        x.give(0, 1, 0, 99);
        x.pass(11);
        x.sow(0, 3);
        due("refused calls are none", x.count(7), 1);
        due("undo of seven", x.undo(), 0);
        due("first stock", x.stock(0, 0), 9);
        due("done", x.work(0, 3), 0);
    }

    public static void main(String[] args) {
        kinds();
        doneAndForgotten();
        doneByNouns();
        crops();
        locusts();
        giving();
        sowing();
        sowingFromSmall();
        undoing();
        undoingParts();
        CHECKS.end();
    }
}
