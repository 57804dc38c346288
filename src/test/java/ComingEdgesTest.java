/** Term 3 but what is said, and promises 15 to 19: each sentence that names an edge. */
public final class ComingEdgesTest {
    private static final Checks CHECKS = new Checks();
    private static final int BAD = Checks.BAD, NONE = Checks.NONE;

    private static void due(String call, int got, int want) {
        CHECKS.due(call, got, want);
    }

    private static void behind() {
        FamineOfVerbs x = Checks.laid("v0,9;v1,0;t0;t0;s0,0,5;s1,1,2;s1,0,2;w0,0,4;w1,1,7;w0,0,3;");
        x.pass(1);
        x.sow(0, 0);
        CHECKS.sentence("term 3: BEHIND n SEASONS (0 to 40)");
        due("0: what it has now", x.behind(0, 0, 0, 0), 2);
        due("0: nothing is done in none", x.behind(0, 0, 0, 1), 0);
        due("0: nothing is forgotten in none", x.behind(0, 0, 0, 2), 0);
        due("1: 2 less and the crop", x.behind(1, 0, 0, 0), 9);
        due("39: none is left", x.behind(39, 0, 0, 0), 0);
        due("40: eleven are worth", x.behind(40, 0, 0, 1), 6 * 4 + 5 * 3);
        due("40: the others are forgotten", x.behind(40, 0, 0, 2), 34 + 35);
        due("39: one each less", x.behind(39, 0, 0, 2), 33 + 34);
        due("-1", x.behind(-1, 0, 0, 0), BAD);
        due("41", x.behind(41, 0, 0, 0), BAD);
        CHECKS.sentence("term 3: nothing else being done");
        due("another village's stay", x.behind(40, 1, 0, 0), 2);
        due("one crop alone", x.behind(2, 0, 0, 0), 7);
        CHECKS.sentence("promise 15: of VILLAGE t (1, 2: its WORKS)");
        due("worth in 1", x.behind(3, 1, 0, 1), 21);
        due("forgotten in 1", x.behind(4, 1, 0, 2), 1);
        due("worth whatever v is", x.behind(3, 1, 1, 1), 21);
        CHECKS.sentence("promise 15: BAD (t and v, whatever what is)");
        for (int what = 0; what <= 2; what++) {
            CHECKS.bad("behind what " + what, x.behind(1, 2, 0, what), x.behind(1, -1, 0, what), x.behind(1, 0, 2, what),
                    x.behind(1, 0, -1, what), x.behind(41, 0, 0, what), x.behind(-1, 0, 0, what));
        }
        CHECKS.bad("behind", x.behind(1, 0, 0, 3), x.behind(1, 0, 0, -1));
    }

    /** As many plain ones as are told, and one work by them. */
    private static FamineOfVerbs plain(int many) {
        FamineOfVerbs x = Checks.laid("v0,0;t0;t0;s0,0,30;s1,0,30;w0,0,1;");
        x.give(1, 0, 0, many - 30);
        return x;
    }

    private static void silent() {
        CHECKS.sentence("term 3: SILENT: the first WORK that is FORGOTTEN in 40");
        due("39 last for 39", plain(39).silent(1), 40);
        due("which", plain(39).silent(0), 0);
        due("40 last for 40", plain(40).silent(1), NONE);
        due("none falls silent", plain(40).silent(0), NONE);
        due("38", plain(38).silent(1), 39);
        CHECKS.sentence("term 3: in which (1 the first)");
        due("at once", Checks.laid("v0,0;t0;w0,0,1;").silent(1), 1);
        due("in the second", Checks.laid("v0,0;t0;s0,0,1;w0,0,1;").silent(1), 2);
        FamineOfVerbs later = Checks.laid("v0,0;t0;s0,0,5;w0,0,1;");
        later.pass(3);
        due("from now on", later.silent(1), 3);
        later.pass(4);
        due("it was silent ahead of now, too", later.silent(1), 1);
        CHECKS.sentence("term 3: of several in one SEASON the lowest");
        due("1 of 1 and 2", Checks.laid("v0,0;v0,0;t0;s0,0,9;w0,0,1;w0,1,1;w0,1,1;").silent(0), 1);
        due("0 of all", Checks.laid("v0,0;t0;w0,0,1;w0,0,1;").silent(0), 0);
        due("7 ahead of 0", Checks.laid("v0,0;v0,0;t0;s0,0,14;" + "w0,0,1;".repeat(7) + "w0,1,1;").silent(0), 7);
        due("2 in a season ahead of 0", Checks.laid("v0,0;t0;s0,0,5;w0,0,1;w0,0,1;w0,0,1;").silent(0), 2);
        CHECKS.sentence("promise 16: NONE; BAD");
        due("no work", Checks.laid("v0,0;t0;").silent(0), NONE);
        due("no work, which season", Checks.laid("v0,0;t0;").silent(1), NONE);
        due("said by nouns", Checks.laid("v0,0;t1;n1;w0,0,1;").silent(1), NONE);
        FamineOfVerbs x = Checks.laid("v0,0;t0;w0,0,1;");
        CHECKS.bad("silent", x.silent(2), x.silent(-1), Checks.laid("v0,0;t0;").silent(2));
    }

    private static void lasts() {
        CHECKS.sentence("term 3: LASTS: (0 to 40; 41: in more)");
        due("not in the next", Checks.laid("v0,0;t0;w0,0,1;").lasts(0), 0);
        due("in one", Checks.laid("v0,0;t0;s0,0,1;w0,0,1;").lasts(0), 1);
        due("39", plain(39).lasts(0), 39);
        due("40 and no more", plain(40).lasts(0), 40);
        due("20 small ones: 40 and no more", Checks.laid("v1,0;t0;s0,0,20;w0,0,1;").lasts(0), 40);
        due("21 small ones: more", Checks.laid("v1,0;t0;s0,0,21;w0,0,1;").lasts(0), 41);
        due("by nouns: more", Checks.laid("v0,0;t1;n1;w0,0,1;").lasts(0), 41);
        due("no work: more", plain(40).lasts(1), 41);
        CHECKS.sentence("term 3: from now on, one behind the other, all WORKS of a VILLAGE are DONE");
        FamineOfVerbs x = Checks.laid("v0,0;v0,0;t0;t0;s0,0,9;s0,1,4;s1,0,2;w0,0,1;w0,1,1;w1,0,1;");
        due("the least of two", x.lasts(0), 4);
        due("another village", x.lasts(1), 2);
        x.pass(3);
        due("one more", x.lasts(0), 1);
        due("none", x.lasts(1), 0);
        FamineOfVerbs again = Checks.laid("v0,9;t0;s0,0,2;w0,0,1;w0,0,1;");
        again.sow(0, 0);
        due("not in the first, though in later ones", again.lasts(0), 0);
        CHECKS.sentence("promise 17: BAD");
        CHECKS.bad("lasts", x.lasts(2), x.lasts(-1), x.lasts(Checks.MOST), x.lasts(Checks.LEAST));
    }

    private static void sent(String text, int want) {
        due("sent of " + text, Checks.laid(text).sent(), want);
    }

    private static void sent() {
        CHECKS.sentence("term 3: so many that all its WORKS said by it are DONE in the next SEASON");
        sent("v0,0;t0;t0;s0,0,1;s1,0,5;w0,0,1;", 0);
        sent("v0,0;t0;t0;s0,0,2;s1,0,5;w0,0,1;w0,0,1;w0,0,1;", 1);
        sent("v2,0;t0;t0;s1,0,8;" + "w0,0,1;".repeat(8), 8);
        sent("v3,0;t0;t0;s1,0,15;" + "w0,0,1;".repeat(8), 15);
        sent("v3,0;t0;t0;s0,0,1;s1,0,2;w0,0,1;w0,0,1;", 2);
        sent("v3,0;t0;t0;s0,0,1;s1,0,5;w0,0,1;", 0);
        sent("v0,0;t0;t0;s1,0,9;w0,0,9;w0,0,1;w0,0,9;", 3);
        sent("v1,0;t0;t0;s1,0,1;w0,0,1;w0,0,1;w0,0,1;", 1);
        sent("v1,0;t0;t0;s0,0,1;w0,0,1;w0,0,1;w0,0,1;", 0);
        FamineOfVerbs small = Checks.laid("v1,0;t0;t0;s1,0,9;s1,0,3;w0,0,1;w0,0,1;w0,0,1;");
        small.pass(1);
        due("season 1 takes each", small.sent(), 3);
        small.pass(1);
        due("season 2 takes none", small.sent(), 1);
        CHECKS.sentence("term 3: 0, if it can say it by NOUNS");
        sent("v0,0;t1;t1;n1;w0,0,1;w1,0,1;", 0);
        sent("v0,0;t1;t0;n1;s0,0,1;w0,0,1;w1,0,1;", 1);
        CHECKS.sentence("term 3: so that each has what it needs");
        sent("v0,0;t0;t0;s1,0,2;w0,0,1;w1,0,1;", 1);
        sent("v0,0;t0;t0;t0;s1,0,2;s2,0,1;w0,0,1;w0,0,1;w1,0,1;", 2);
        sent("v0,0;v0,0;t0;t0;s0,0,2;s1,1,2;w0,1,1;w1,0,1;", 2);
        CHECKS.sentence("term 3: none (of one there are too few). promise 18: NONE");
        sent("v0,0;t0;w0,0,1;", NONE);
        sent("v0,0;t0;s0,0,1;w0,0,1;w0,0,1;", NONE);
        sent("v0,0;t0;t0;s1,0,1;w0,0,1;w1,0,1;", NONE);
        sent("v0,0;v0,0;t0;t0;s1,0,30;w0,0,1;w0,1,1;", NONE);
        sent("v3,0;t0;t0;s1,0,2;w0,0,1;w0,0,1;", NONE);
        sent("v1,0;t0;t0;s0,0,1;w0,0,1;w1,0,1;", NONE);
        CHECKS.sentence("promise 18: SENT (nothing has to be)");
        sent("v0,0;t0;", 0);
        sent("v0,0;t0;t0;t0;t0;s3,0,30;", 0);
    }

    private static void share(String text, int v, int n, int worth, int... uses) {
        FamineOfVerbs x = Checks.laid(text);
        due("worth of share " + v + " for " + n + " of " + text, x.share(v, n, -1), worth);
        for (int t = 0; t < uses.length; t++) {
            due("use of " + t + " for " + n + " of " + text, x.share(v, n, t), uses[t]);
        }
    }

    private static void share() {
        CHECKS.sentence("term 3: SHARE of a VERB for n (1 to 9) SEASONS: for none more than n times");
        String one = "v0,0;t0;t0;s1,0,30;w0,0,3;w0,0,2;w1,0,1;";
        share(one, 0, 1, 6, 2, 1);
        share(one, 0, 9, 54, 18, 9);
        share("v0,0;t0;t0;s1,0,19;w0,0,3;w0,0,2;w1,0,1;", 0, 9, 46, 18, 1);
        CHECKS.sentence("term 3: all that VILLAGES have of it is used 1 by 1");
        share("v0,0;t0;t0;w0,0,9;w1,0,9;", 0, 9, 0, 0, 0);
        share("v0,0;t0;t0;s0,0,1;w0,0,2;w1,0,9;", 0, 9, 9, 0, 1);
        share("v0,0;t0;t0;s0,0,1;s1,0,1;w0,0,2;w1,0,9;", 0, 1, 11, 1, 1);
        share("v0,0;t0;t0;s0,0,9;", 0, 5, 0, 0, 0);
        CHECKS.sentence("term 3: each for one of the WORKS that are said by it");
        share("v0,0;v0,0;t0;t0;s0,0,9;s0,1,9;w0,0,2;w1,1,9;", 0, 3, 6, 3, 0);
        share("v0,0;v0,0;t0;t0;s0,0,9;s0,1,9;w0,0,2;w1,1,9;", 1, 3, 27, 0, 3);
        CHECKS.sentence("term 3: (KINDS, NOUNS, CROPS aside)");
        share("v1,9;t1;t1;n1;s0,0,3;w0,0,2;w1,0,1;", 0, 2, 5, 2, 1);
        share("v3,9;t1;t1;n1;s0,0,3;w0,0,2;w1,0,1;", 0, 2, 5, 2, 1);
        share("v2,9;t0;t0;s0,0,3;w0,0,2;w1,0,1;", 0, 2, 5, 2, 1);
        CHECKS.sentence("term 3: of several ways the one by which VILLAGE 0 uses most, then 1, ..");
        String alike = "v0,0;t0;t0;t0;t0;s3,0,7;w3,0,4;w2,0,4;w1,0,4;w0,0,4;";
        share(alike, 0, 1, 16, 1, 1, 1, 1);
        share(alike, 0, 2, 28, 2, 2, 2, 1);
        share(alike, 0, 3, 28, 3, 3, 1, 0);
        share(alike, 0, 9, 28, 7, 0, 0, 0);
        share("v0,0;t0;t0;t0;s0,0,5;w2,0,9;w1,0,4;w0,0,4;w1,0,4;", 0, 2, 30, 2, 1, 2);
        share("v0,0;t0;t0;s0,0,3;w0,0,1;w0,0,5;w1,0,5;w1,0,1;", 0, 1, 11, 2, 1);
    }

    private static void shareRefused() {
        CHECKS.sentence("promise 19: as much (t = -1), how many a VILLAGE gets. BAD");
        FamineOfVerbs x = Checks.laid("v0,0;t0;t0;s0,0,3;w1,0,2;");
        due("as much", x.share(0, 9, -1), 6);
        due("the last village", x.share(0, 1, 1), 1);
        CHECKS.bad("share", x.share(1, 1, 0), x.share(-1, 1, 0), x.share(0, 0, 0), x.share(0, 10, 0), x.share(0, -1, -1),
                x.share(0, 1, 2), x.share(0, 1, -2), x.share(0, 1, -4), x.share(0, 0, -1), x.share(1, 1, -1));
    }

    public static void main(String[] args) {
        behind();
        silent();
        lasts();
        sent();
        share();
        shareRefused();
        CHECKS.end();
    }
}
