/** Term 2 and promises 11 to 14: each sentence that names an edge. */
public final class SeasonEdgesTest {
    private static final Checks CHECKS = new Checks();
    private static final int BAD = Checks.BAD, NO = Checks.NO, FULL = Checks.FULL, NONE = Checks.NONE;

    private static void due(String call, int got, int want) {
        CHECKS.due(call, got, want);
    }

    /** How many of verb 0 village 0 has and how often work 0, 1, .. was done, once n SEASONS have gone by. */
    private static void behind(int n, String text, int stock, int... done) {
        FamineOfVerbs x = Checks.laid(text);
        for (int i = 0; i < n; i++) {
            x.pass(1);
        }
        due("stock behind " + n + " of " + text, x.stock(0, 0), stock);
        for (int w = 0; w < done.length; w++) {
            due("done " + w + " behind " + n + " of " + text, x.work(w, 3), done[w]);
            due("forgotten " + w + " behind " + n + " of " + text, x.work(w, 4), n - done[w]);
        }
    }

    private static void works() {
        CHECKS.sentence("term 2: WORKS, 0 first");
        behind(1, "v0,0;t0;s0,0,1;w0,0,1;w0,0,9;", 0, 1, 0);
        behind(1, "v0,0;t0;s0,0,2;w0,0,1;w0,0,9;w0,0,5;", 0, 1, 1, 0);
        CHECKS.sentence("term 2: if its VILLAGE has its VERB, it is DONE, and the VILLAGE has 1 of it less");
        behind(1, "v0,0;t0;s0,0,1;w0,0,1;", 0, 1);
        behind(1, "v2,9;t0;s0,0,1;w0,0,1;", 0, 1);
        behind(1, "v0,0;t0;s0,0,30;w0,0,1;", 29, 1);
        behind(1, "v0,0;t0;s0,0,0;w0,0,1;", 0, 0);
        behind(1, "v0,0;v0,0;t0;t0;s0,1,5;s1,0,5;w0,0,1;", 0, 0);
        CHECKS.sentence("term 2: it is DONE, if the VILLAGE can say it by NOUNS; else it is FORGOTTEN");
        behind(3, "v0,0;t1;n1;s0,0,1;w0,0,1;", 0, 3);
        behind(1, "v0,0;t1;n1;s0,0,1;w0,0,1;w0,0,1;", 0, 1, 1);
        behind(3, "v0,0;t0;n1;s0,0,1;w0,0,1;", 0, 1);
        behind(2, "v0,0;t1;n1;w0,0,1;", 0, 2);
    }

    private static void smallOnes() {
        CHECKS.sentence("term 2: of a SMALL one only in SEASONS 1, 3, ..; 0 is the first");
        int[] wants = {3, 2, 2, 1, 1, 0, 0};
        for (int n = 1; n <= wants.length; n++) {
            behind(n, "v1,0;t0;s0,0,3;w0,0,1;", wants[n - 1], Math.min(n, 6));
        }
        behind(1, "v1,0;t0;s0,0,1;w0,0,1;w0,0,1;w0,0,1;", 1, 1, 1, 1);
        behind(2, "v1,0;t0;s0,0,1;w0,0,1;w0,0,1;w0,0,1;", 0, 2, 1, 1);
        behind(1, "v1,0;t0;s0,0,0;w0,0,1;", 0, 0);
    }

    private static void holyOnes() {
        CHECKS.sentence("term 2: of a HOLY one 2 less, where it has 2");
        behind(1, "v3,0;t0;s0,0,0;w0,0,1;", 0, 0);
        behind(1, "v3,0;t0;s0,0,1;w0,0,1;", 0, 1);
        behind(1, "v3,0;t0;s0,0,2;w0,0,1;", 0, 1);
        behind(1, "v3,0;t0;s0,0,3;w0,0,1;", 1, 1);
        behind(1, "v3,0;t0;s0,0,4;w0,0,1;", 2, 1);
        behind(1, "v3,0;t0;s0,0,2;w0,0,1;w0,0,1;", 0, 1, 0);
        behind(1, "v3,0;t0;s0,0,3;w0,0,1;w0,0,1;", 0, 1, 1);
        behind(2, "v3,0;t0;s0,0,30;w0,0,1;", 26, 2);
    }

    /** How many of the VERB are left behind a SEASON in which it was SOWN, with so many there ahead of sowing. */
    private static void grown(String verb, int had, int want) {
        FamineOfVerbs x = Checks.laid(verb + "t0;t0;s0,0,30;s1,0,30;");
        if (had > 30) {
            x.give(1, 0, 0, had - 30);
        } else if (had < 30) {
            x.give(0, 1, 0, Math.min(30 - had, 30));
        }
        due("had", x.stock(0, 0), had);
        due("sow", x.sow(0, 0), had - 1);
        x.pass(1);
        due("grown from " + had + " of " + verb, x.stock(0, 0), want);
        due("field", x.village(0, 1), NONE);
    }

    private static void crops() {
        CHECKS.sentence("term 2: Of what is SOWN the VILLAGE has as many more as its CROP");
        grown("v0,0;", 1, 0);
        grown("v0,1;", 1, 1);
        grown("v0,9;", 1, 9);
        grown("v1,9;", 5, 13);
        grown("v3,9;", 5, 13);
        CHECKS.sentence("term 2: of a SEED one 2 times that");
        grown("v2,0;", 5, 4);
        grown("v2,1;", 5, 6);
        grown("v2,9;", 1, 18);
        CHECKS.sentence("term 2: 60 of each at most");
        grown("v0,9;", 51, 54);
        grown("v0,9;", 52, 54);
        grown("v0,9;", 53, 54);
        grown("v0,9;", 60, 54);
        grown("v2,9;", 42, 54);
        grown("v2,9;", 43, 54);
        grown("v2,9;", 44, 54);
        grown("v2,9;", 60, 54);
        CHECKS.sentence("term 2: its field is free then");
        FamineOfVerbs x = Checks.laid("v0,3;v0,5;t0;t0;s0,0,9;s1,1,9;");
        x.sow(0, 0);
        x.sow(1, 1);
        due("not free", x.sow(0, 0), NO);
        x.pass(1);
        due("free", x.village(0, 1), NONE);
        due("free in 1", x.village(1, 1), NONE);
        x.pass(1);
        due("no crop twice", x.stock(0, 0), 11);
        due("no crop twice in 1", x.stock(1, 1), 13);
        due("sow again", x.sow(0, 0), 10);
    }

    /** A SEASON takes its steps in their order: works, crops, locusts. */
    private static void order() {
        CHECKS.sentence("term 2: A SEASON, one step behind the other");
        FamineOfVerbs x = Checks.laid("v0,2;v0,9;t0;t0;s0,0,1;s0,1,30;s1,1,30;w0,0,5;");
        x.sow(0, 0);
        x.pass(1);
        due("works ahead of the crop", x.work(0, 4), 1);
        due("the crop stays", x.stock(0, 0), 2);
        x.give(1, 0, 1, 2);
        x.sow(0, 1);
        x.pass(1);
        due("31 and 9 lose 4: locusts behind the crop", x.stock(0, 1), 36);
        FamineOfVerbs full = Checks.laid("v0,9;t0;t0;s0,0,30;s1,0,30;w0,0,5;");
        full.give(1, 0, 0, 10);
        full.pass(1);
        due("works ahead of locusts", full.stock(0, 0), 39);
    }

    private static void locusts() {
        CHECKS.sentence("term 2: Of each VERB of which a VILLAGE has 40 or more it loses the tenth part, cut");
        int[][] wants = {{38, 38}, {39, 39}, {40, 36}, {41, 37}, {49, 45}, {50, 45}, {51, 46}, {59, 54}, {60, 54}};
        for (int[] want : wants) {
            FamineOfVerbs x = Checks.laid("v0,0;t0;t0;s0,0,30;s1,0,30;");
            x.give(1, 0, 0, want[0] - 30);
            x.pass(1);
            due("left of " + want[0], x.stock(0, 0), want[1]);
            due("the other village's", x.stock(1, 0), 60 - want[0]);
        }
        FamineOfVerbs x = Checks.laid("v0,0;v1,0;v2,0;v3,0;v0,0;v0,0;t0;t0;t0;t0;s3,0,30;s3,5,30;s2,0,30;s2,5,30;s3,1,30;s2,1,30;");
        x.give(2, 3, 0, 10);
        x.give(2, 3, 5, 30);
        x.give(2, 3, 1, 9);
        x.pass(1);
        due("the first", x.stock(3, 0), 36);
        due("the last", x.stock(3, 5), 54);
        due("39 of the second", x.stock(3, 1), 39);
        x.pass(1);
        due("36 stay", x.stock(3, 0), 36);
        due("54 lose 5", x.stock(3, 5), 49);
        due("20 stay", x.stock(2, 0), 20);
    }

    private static void passing() {
        CHECKS.sentence("promise 11: n SEASONS (1 to 10) go by: how many have gone by in all. BAD");
        FamineOfVerbs x = Checks.laid("v0,0;t0;s0,0,12;w0,0,1;");
        due("pass(1)", x.pass(1), 1);
        due("pass(10)", x.pass(10), 11);
        due("eleven used", x.stock(0, 0), 1);
        CHECKS.bad("pass", x.pass(0), x.pass(11), x.pass(-1), x.pass(Checks.LEAST), x.pass(Checks.MOST));
        due("no season more", x.count(4), 11);
        due("pass(2)", x.pass(2), 13);
        due("one forgotten", x.work(0, 4), 1);
        for (int i = 0; i < 100; i++) {
            x.pass(10);
        }
        due("a thousand more", x.count(4), 1013);
        due("forgotten", x.work(0, 4), 1001);
    }

    private static void giving() {
        CHECKS.sentence("promise 12: n (1 to 60) of a VERB are GIVEN by t to u: how many u has. BAD (alike, too)");
        FamineOfVerbs x = Checks.laid("v0,0;t0;t0;t0;s0,0,30;s1,0,30;s2,0,1;");
        due("one", x.give(0, 1, 0, 1), 31);
        due("one is gone", x.stock(0, 0), 29);
        due("back", x.give(1, 0, 0, 31), 60);
        due("sixty", x.give(0, 1, 0, 60), 60);
        due("all gone", x.stock(0, 0), 0);
        CHECKS.bad("give", x.give(1, 0, 0, 0), x.give(1, 0, 0, 61), x.give(1, 0, 0, -1), x.give(1, 1, 0, 1),
                x.give(0, 0, 0, 1), x.give(1, 3, 0, 1), x.give(3, 1, 0, 1), x.give(1, -1, 0, 1), x.give(-1, 1, 0, 1),
                x.give(1, 0, 1, 1), x.give(1, 0, -1, 1), x.give(3, 3, 0, 1));
        CHECKS.sentence("promise 12: NO: not so many");
        due("of none", x.give(0, 1, 0, 1), NO);
        due("of one two", x.give(2, 0, 0, 2), NO);
        due("of one one", x.give(2, 0, 0, 1), 1);
        CHECKS.sentence("promise 12: FULL: above 60");
        due("60 and 1", x.give(0, 1, 0, 1), FULL);
        x.give(1, 2, 0, 2);
        due("58 and 1", x.give(0, 1, 0, 1), 59);
        due("59 and 2", x.give(2, 1, 0, 2), FULL);
        due("59 and 1", x.give(2, 1, 0, 1), 60);
        due("sixty and one", x.give(2, 1, 0, 1), FULL);
        due("NO is first", x.give(2, 1, 0, 2), NO);
        due("BAD is first", x.give(2, 1, 0, 61), BAD);
        due("given seven times", x.count(7), 7);
    }

    private static void sowing() {
        CHECKS.sentence("term 2: it costs 1 of that VERB");
        due("the last one", Checks.laid("v0,0;v1,0;t0;s0,0,1;s0,1,9;").sow(0, 0), 0);
        FamineOfVerbs own = Checks.laid("v0,0;v1,0;t0;s0,0,1;s0,1,9;");
        own.sow(0, 0);
        due("small ones stay", own.stock(0, 1), 9);
        due("a small one of itself", Checks.laid("v1,0;v1,0;t0;s0,1,2;").sow(0, 1), 1);
        due("a single small one of itself", Checks.laid("v1,0;v1,0;t0;s0,0,9;s0,1,1;").sow(0, 1), 0);
        CHECKS.sentence("term 2: if the VILLAGE has none of it, 2 of the lowest SMALL one of which it has 2");
        FamineOfVerbs x = Checks.laid("v0,0;v1,0;v0,0;v1,0;v1,0;v3,0;t0;s0,1,1;s0,2,9;s0,3,2;s0,4,9;s0,5,9;");
        due("left of verb 0", x.sow(0, 0), 0);
        due("one stays", x.stock(0, 1), 1);
        due("plain ones stay", x.stock(0, 2), 9);
        due("two are used", x.stock(0, 3), 0);
        due("the next stays", x.stock(0, 4), 9);
        due("holy ones stay", x.stock(0, 5), 9);
        x.pass(1);
        x.sow(0, 0);
        due("two of the next", x.stock(0, 4), 7);
        due("other villages' do not count", Checks.laid("v0,0;v1,0;t0;t0;s1,1,9;s1,0,9;").sow(0, 0), NO);
        CHECKS.sentence("promise 13: NO: the field is not free, it has none that will do");
        due("not free", x.sow(0, 5), NO);
        due("none", Checks.laid("v0,0;t0;").sow(0, 0), NO);
        due("one small one", Checks.laid("v0,0;v1,0;t0;s0,1,1;").sow(0, 0), NO);
        due("two seeds", Checks.laid("v0,0;v2,0;t0;s0,1,2;").sow(0, 0), NO);
        due("not free, and none", Checks.laid("v0,0;t0;s0,0,1;").sow(0, 0) + x.sow(0, 2), NO);
        CHECKS.sentence("promise 13: BAD");
        CHECKS.bad("sow", x.sow(1, 0), x.sow(-1, 0), x.sow(0, 6), x.sow(0, -1), x.sow(0, Checks.MOST));
    }

    private static void undoing() {
        CHECKS.sentence("term 2: UNDONE is the latest SEASONS, GIVING, SOWING (all that go by at one time are one)");
        FamineOfVerbs x = Checks.laid("v0,7;t0;t0;s0,0,30;w0,0,1;");
        x.pass(10);
        x.give(0, 1, 0, 10);
        x.sow(0, 0);
        due("three", x.count(7), 3);
        due("sowing", x.undo(), 2);
        due("it is not sown", x.village(0, 1), NONE);
        due("ten", x.stock(0, 0), 10);
        due("giving", x.undo(), 1);
        due("twenty", x.stock(0, 0), 20);
        due("none given", x.stock(1, 0), 0);
        due("ten seasons", x.undo(), 0);
        due("season 0", x.count(4), 0);
        due("done none", x.work(0, 3), 0);
        CHECKS.sentence("term 2: the last 8 can be");
        for (int i = 1; i <= 10; i++) {
            x.pass(i);
            due("can be undone", x.count(7), Math.min(i, 8));
        }
        for (int i = 7; i >= 0; i--) {
            due("undo", x.undo(), i);
        }
        due("1 and 2 stay", x.count(4), 3);
        CHECKS.sentence("promise 14: UNDONE: how many more can be. NO");
        due("no more", x.undo(), NO);
        due("of a new object", new FamineOfVerbs().undo(), NO);
        x.pass(1);
        due("one more", x.undo(), 0);
        due("none", x.undo(), NO);
    }

    private static void undoTellsTheLatestOnly() {
        CHECKS.sentence("promise 14: what is undone comes no more; what was refused is none");
        FamineOfVerbs x = Checks.laid("v0,7;t0;t0;s0,0,30;w0,0,1;");
        x.pass(1);
        x.pass(2);
        x.undo();
        x.pass(3);
        due("four", x.count(4), 4);
        x.give(0, 0, 0, 1);
        x.give(1, 0, 0, 1);
        x.sow(1, 0);
        x.sow(2, 0);
        x.pass(0);
        x.pass(11);
        due("two can be", x.count(7), 2);
        due("the three", x.undo(), 1);
        due("one", x.count(4), 1);
        due("the one", x.undo(), 0);
        due("none", x.count(4), 0);
    }

    /** Many more steps than can be undone at one time, forth and back, against a row of all of them. */
    private static void undoingForthAndBack() {
        CHECKS.sentence("term 2: the last 8 can be (again and again)");
        FamineOfVerbs x = Checks.laid("v0,7;t0;t0;s0,0,30;w0,0,1;");
        int[] seasons = new int[9];
        int held = 0;
        int now = 0;
        for (int i = 0; i < 120; i++) {
            if (i % 11 < 7) {
                if (held == 8) {
                    System.arraycopy(seasons, 1, seasons, 0, 7);
                    held = 7;
                }
                seasons[held++] = now;
                now += 1 + i % 3;
                due("pass " + i, x.pass(1 + i % 3), now);
            } else if (held > 0) {
                now = seasons[--held];
                due("undo " + i, x.undo(), held);
            } else {
                due("undo " + i, x.undo(), NO);
            }
            due("season " + i, x.count(4), now);
            due("can be undone " + i, x.count(7), held);
        }
    }

    public static void main(String[] args) {
        works();
        smallOnes();
        holyOnes();
        crops();
        order();
        locusts();
        passing();
        giving();
        sowing();
        undoing();
        undoingForthAndBack();
        undoTellsTheLatestOnly();
        CHECKS.end();
    }
}
