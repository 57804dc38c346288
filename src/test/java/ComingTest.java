/** Promises 15 to 19: BEHIND, SILENT, LASTS, SENT, SHARE. */
public final class ComingTest {
    private static final Checks CHECKS = new Checks();
    private static final int LEAST = Checks.LEAST, MOST = Checks.MOST;

    private static void due(String call, int got, int want) {
        CHECKS.due(call, got, want);
    }

    private static void behind() {
        FamineOfVerbs x = Checks.laid("v0,4;v3,0;t0;t0;s0,0,10;s0,1,3;s1,0,2;w0,0,5;w1,0,7;w0,1,2;");
        x.pass(1);
        x.sow(0, 0);
        String before = Checks.stateOf(x);
        due("behind 0: stock", x.behind(0, 0, 0, 0), 8);
        due("behind 0: worth", x.behind(0, 0, 0, 1), 0);
        due("behind 0: forgotten", x.behind(0, 0, 0, 2), 0);
        due("behind 1: stock with the crop", x.behind(1, 0, 0, 0), 11);
        due("behind 1: worth", x.behind(1, 0, 0, 1), 7);
        due("behind 2: worth", x.behind(2, 0, 1, 1), 12);
        due("behind 2: forgotten", x.behind(2, 0, 1, 2), 1);
        due("behind 2: of village 1", x.behind(2, 1, 1, 1), 7);
        due("behind 2: forgotten in 1", x.behind(2, 1, 1, 2), 1);
        due("behind 40: worth", x.behind(40, 0, 0, 1), 62);
        due("behind 40: forgotten", x.behind(40, 0, 0, 2), 28 + 39);
        due("behind 40: stock", x.behind(40, 0, 0, 0), 0);
        CHECKS.due("nothing goes by", Checks.stateOf(x), before);
        CHECKS.bad("behind", x.behind(-1, 0, 0, 0), x.behind(41, 0, 0, 0), x.behind(1, 2, 0, 0),
                x.behind(1, -1, 0, 0), x.behind(1, 0, 2, 1), x.behind(1, 0, -1, 2), x.behind(1, 0, 0, 3),
                x.behind(1, 0, 0, -1), x.behind(LEAST, 0, 0, 0), x.behind(MOST, 0, 0, 0),
                x.behind(1, LEAST, 0, 0), x.behind(1, 0, MOST, 2), x.behind(1, 2, 0, 2), x.behind(1, 0, 0, MOST));
    }

    private static void behindWhatHasBeen() {
        FamineOfVerbs x = Checks.laid("v0,0;t0;t0;s0,0,3;s1,0,2;w0,0,5;");
        x.pass(5);
        due("two were forgotten", x.work(0, 4), 2);
        due("three more", x.behind(3, 0, 0, 2), 3);
        x.give(1, 0, 0, 2);
        due("two will be done", x.behind(3, 0, 0, 1), 10);
        due("one is forgotten", x.behind(3, 0, 0, 2), 1);
    }

    private static void smallOnesGoOnBySeason() {
        FamineOfVerbs x = Checks.laid("v1,0;t0;s0,0,5;w0,0,1;");
        due("even first", x.behind(1, 0, 0, 0), 5);
        due("two", x.behind(2, 0, 0, 0), 4);
        x.pass(1);
        due("odd first", x.behind(1, 0, 0, 0), 4);
        due("two of them", x.behind(2, 0, 0, 0), 4);
        due("forty", x.behind(40, 0, 0, 2), 31);
    }

    private static void silent() {
        FamineOfVerbs x = Checks.laid("v0,0;v0,0;t0;t0;s0,0,3;s0,1,2;s1,0,2;w0,0,1;w0,1,1;w1,0,1;");
        due("lowest of two", x.silent(0), 1);
        due("third season", x.silent(1), 3);
        x.pass(2);
        due("from now on", x.silent(1), 1);
        due("the same one", x.silent(0), 1);
        x.give(0, 1, 0, 1);
        due("the lowest", x.silent(0), 0);
        CHECKS.bad("silent", x.silent(2), x.silent(-1), x.silent(LEAST), x.silent(MOST));
        FamineOfVerbs none = Checks.laid("v0,0;t0;n1;w0,0,1;");
        due("said by no noun that it lacks", none.silent(0), 0);
        FamineOfVerbs still = Checks.laid("v0,0;t1;n1;w0,0,1;");
        due("none falls silent", still.silent(0), Checks.NONE);
        due("never", still.silent(1), Checks.NONE);
        due("BAD ahead of NONE", still.silent(2), Checks.BAD);
        due("no works", Checks.laid("v0,0;t0;").silent(0), Checks.NONE);
    }

    /** 20 small ones last through SEASONS 0 to 39 and the next even one. */
    private static void farEdges() {
        FamineOfVerbs x = Checks.laid("v1,0;t0;t0;s0,0,20;w0,0,1;");
        due("silent in season 41 is not told", x.silent(1), Checks.NONE);
        due("lasts 40", x.lasts(0), 40);
        FamineOfVerbs less = Checks.laid("v1,0;t0;t0;s0,0,19;w0,0,1;");
        due("silent in season 39", less.silent(1), 39);
        due("lasts 38", less.lasts(0), 38);
        FamineOfVerbs more = Checks.laid("v1,0;t0;t0;s0,0,21;w0,0,1;");
        due("lasts more", more.lasts(0), 41);
        due("no work at all", more.lasts(1), 41);
        more.pass(3);
        due("lasts 39 from season 3", more.lasts(0), 39);
        due("silent in season 40", more.silent(1), 40);
    }

    private static void lasts() {
        FamineOfVerbs x = Checks.laid("v0,0;v0,0;t0;t1;s0,0,7;s0,1,3;s1,0,5;w0,0,1;w0,1,1;w1,0,1;w1,1,1;w0,0,1;n2;");
        due("the worst of its works", x.lasts(0), 3);
        due("stock alone counts", x.lasts(1), 5);
        x.pass(4);
        due("at once", x.lasts(0), 0);
        due("one more", x.lasts(1), 1);
        CHECKS.bad("lasts", x.lasts(2), x.lasts(-1), x.lasts(LEAST), x.lasts(MOST));
    }

    private static void sent() {
        due("nothing needed", Checks.laid("v0,0;t0;").sent(), 0);
        due("one", Checks.laid("v0,0;t0;t0;s1,0,1;w0,0,1;").sent(), 1);
        due("none", Checks.laid("v0,0;t0;t0;w0,0,1;").sent(), Checks.NONE);
        due("its own need stays", Checks.laid("v0,0;t0;t0;s1,0,1;w0,0,1;w1,0,1;").sent(), Checks.NONE);
        due("said by nouns", Checks.laid("v0,0;t0;t1;n1;s1,0,1;w0,0,1;w1,0,1;").sent(), 1);
        due("two of three", Checks.laid("v0,0;t0;t0;s0,0,1;s1,0,5;w0,0,1;w0,0,2;w0,0,3;").sent(), 2);
        due("two verbs", Checks.laid("v0,0;v2,0;t0;t0;s1,0,5;s0,1,5;w0,0,1;w0,0,2;w1,1,3;").sent(), 3);
        due("of one too few", Checks.laid("v0,0;v2,0;t0;t0;s1,0,5;w0,0,1;w1,1,3;").sent(), Checks.NONE);
        due("worth 9", Checks.laid("v0,0;t0;t0;s1,0,2;w0,0,9;w0,0,1;").sent(), 2);
        due("three villages", Checks.laid("v0,0;t0;t0;t0;s2,0,9;w0,0,1;w0,0,2;w1,0,3;w2,0,1;").sent(), 3);
    }

    private static void sentByKind() {
        FamineOfVerbs small = Checks.laid("v1,0;t0;t0;s1,0,2;w0,0,1;w0,0,1;w0,0,1;w1,0,1;");
        due("one small one will do in season 0", small.sent(), 1);
        small.pass(1);
        due("in season 1 all are used", small.sent(), Checks.NONE);
        FamineOfVerbs enough = Checks.laid("v1,0;t0;t0;s1,0,3;w0,0,1;w0,0,1;w0,0,1;");
        due("even", enough.sent(), 1);
        enough.pass(1);
        due("odd", enough.sent(), 3);
        due("holy, one work", Checks.laid("v3,0;t0;t0;s1,0,5;w0,0,1;").sent(), 1);
        due("holy, two works", Checks.laid("v3,0;t0;t0;s1,0,5;w0,0,1;w0,0,1;").sent(), 3);
        due("holy, three works", Checks.laid("v3,0;t0;t0;s1,0,5;w0,0,1;w0,0,1;w0,0,1;").sent(), 5);
        due("holy, too few", Checks.laid("v3,0;t0;t0;s1,0,4;w0,0,1;w0,0,1;w0,0,1;").sent(), Checks.NONE);
        due("holy, has two", Checks.laid("v3,0;t0;t0;s0,0,2;s1,0,5;w0,0,1;w0,0,1;").sent(), 1);
    }

    private static void share() {
        FamineOfVerbs x = Checks.laid("v3,0;v0,0;t1;t0;t0;n1;s0,0,2;s1,0,3;s2,0,4;w2,0,9;w0,0,5;w1,0,5;w1,0,2;w2,1,8;");
        due("worth", x.share(0, 2, -1), 2 * 9 + 4 * 5 + 2 * 2);
        due("village 2", x.share(0, 2, 2), 2);
        due("village 1", x.share(0, 2, 1), 4);
        due("worth in 3", x.share(0, 3, -1), 27 + 30);
        due("village 0 in 3", x.share(0, 3, 0), 3);
        due("village 1 in 3", x.share(0, 3, 1), 3);
        due("worth in 4", x.share(0, 4, -1), 36 + 25);
        due("village 0 first", x.share(0, 4, 0), 4);
        due("then village 1", x.share(0, 4, 1), 1);
        due("nine seasons", x.share(0, 9, -1), 81);
        due("none is left", x.share(0, 9, 0), 0);
        due("one season: some stay", x.share(0, 1, -1), 21);
        due("none there is", x.share(1, 5, -1), 0);
        due("none for 2", x.share(1, 5, 2), 0);
        FamineOfVerbs edge = Checks.laid("v0,0;t0;s0,0,20;w0,0,1;w0,0,9;");
        due("worth 9 and 1", edge.share(0, 9, -1), 81 + 9);
        due("two stay", edge.share(0, 9, 0), 18);
        CHECKS.bad("share", x.share(2, 1, 0), x.share(-1, 1, 0), x.share(0, 0, 0), x.share(0, 10, 0),
                x.share(0, 1, 3), x.share(0, 1, -2), x.share(LEAST, 1, 0), x.share(0, MOST, 0), x.share(0, 1, LEAST),
                x.share(0, 1, MOST));
    }

    public static void main(String[] args) {
        behind();
        behindWhatHasBeen();
        smallOnesGoOnBySeason();
        silent();
        farEdges();
        lasts();
        sent();
        sentByKind();
        share();
        CHECKS.end();
    }
}
