import java.math.BigInteger;

/** Term 4 and promises 23 to 31: each sentence that names an edge. */
public final class FieldEdgesTest {
    private static final Checks CHECKS = new Checks();
    private static final int BAD = Checks.BAD, NO = Checks.NO, FULL = Checks.FULL, NONE = Checks.NONE;

    private static void due(String call, int got, int want) {
        CHECKS.due(call, got, want);
    }

    private static void bred(String text, int want) {
        FamineOfVerbs x = Checks.laid(text);
        due("bred of " + text, x.bred(0), want);
        for (int v = 0; v < x.count(0); v++) {
            due("sow " + v + " of " + text, Checks.laid(text).sow(0, v) >= 0 ? 1 : 0, want >> v & 1);
        }
    }

    private static void bred() {
        CHECKS.sentence("term 4: BRED: VERBS (bits) that could be SOWN in a VILLAGE now (from small ones or not)");
        bred("v0,0;v1,0;t0;", 0);
        bred("v0,0;v1,0;t0;s0,0,1;", 1);
        bred("v0,0;v1,0;t0;s0,1,1;", 2);
        bred("v0,0;v1,0;t0;s0,1,2;", 3);
        bred("v0,0;v2,0;v3,0;t0;s0,1,30;s0,2,30;", 6);
        bred("v0,0;v1,0;v1,0;v3,0;t0;s0,1,1;s0,2,1;s0,3,1;", 14);
        bred("v0,0;".repeat(5) + "v1,0;t0;s0,5,2;", 63);
        bred("v0,0;v1,0;t0;t0;s1,0,9;s1,1,9;", 0);
        CHECKS.sentence("term 4: BRED: none where the field is not free");
        FamineOfVerbs x = Checks.laid("v0,0;v1,0;t0;t0;s0,0,9;s0,1,9;s1,0,9;");
        x.sow(0, 0);
        due("sown", x.bred(0), 0);
        due("not sown", x.bred(1), 1);
        x.pass(1);
        due("free then", x.bred(0), 3);
        CHECKS.sentence("promise 23: BRED, as bits. BAD");
        CHECKS.bad("bred", x.bred(2), x.bred(-1), x.bred(Checks.MOST), x.bred(Checks.LEAST));
    }

    private static void hearing() {
        CHECKS.sentence("term 4: HEARD (6 at most). promise 24: how many. BAD; FULL");
        FamineOfVerbs x = Checks.laid("v0,0;t0;w0,0,1;");
        CHECKS.bad("hear", x.hear(0, 0, true), x.hear(0, 10, true), x.hear(1, 1, true), x.hear(-1, 1, true),
                x.hear(0, -1, false), x.hear(1, 9, false));
        due("none of them", x.count(6), 0);
        for (int i = 1; i <= 6; i++) {
            due("hear " + i, x.hear(0, 9, true), i);
        }
        due("a seventh", x.hear(0, 9, true), FULL);
        due("a seventh in season 1", x.hear(0, 1, false), FULL);
        due("BAD is first", x.hear(0, 0, true), BAD);
        due("BAD is first again", x.hear(1, 1, true), BAD);
        due("six", x.count(6), 6);
        due("no work at all", Checks.laid("v0,0;t0;").hear(0, 1, true), BAD);
        CHECKS.sentence("promise 25: Nothing is HEARD: how many were");
        due("six were", x.forget(), 6);
        due("none were", x.forget(), 0);
        due("all is free", x.hoard(0, 0, 0), 31);
        due("hear again", x.hear(0, 9, false), 1);
        due("0 to 8", x.hoard(0, 0, 0), 9);
        due("one was", x.forget(), 1);
        due("of a new object", new FamineOfVerbs().forget(), 0);
    }

    /** HOARD of verb 0 in village 0, once it is heard that work 0 was (not) done in a SEASON. */
    private static void heard(String text, int w, int season, boolean done, int many, int lowest) {
        FamineOfVerbs x = Checks.laid(text);
        due("heard", x.hear(w, season, done), 1);
        String label = " by work " + w + " in " + season + " " + done + " of " + text;
        due("how many" + label, x.hoard(0, 0, 0), many);
        due("the lowest" + label, x.hoard(0, 0, 1), lowest);
    }

    private static void seasonsHeard() {
        CHECKS.sentence("term 4: in SEASON t (1 to 9; 1 the first)");
        String plain = "v0,0;t0;s0,0,5;w0,0,1;";
        heard(plain, 0, 1, true, 30, 1);
        heard(plain, 0, 1, false, 1, 0);
        heard(plain, 0, 2, true, 29, 2);
        heard(plain, 0, 8, false, 8, 0);
        heard(plain, 0, 9, true, 22, 9);
        heard(plain, 0, 9, false, 9, 0);
        heard("v1,0;t0;s0,0,5;w0,0,1;", 0, 2, false, 1, 0);
        heard("v1,0;t0;s0,0,5;w0,0,1;", 0, 9, true, 26, 5);
        heard("v3,0;t0;s0,0,5;w0,0,1;", 0, 9, true, 14, 17);
        CHECKS.sentence("term 4: from when all was LAID, nothing else being done");
        FamineOfVerbs x = Checks.laid("v0,5;t0;t0;s0,0,5;s1,0,9;w0,0,1;");
        x.sow(0, 0);
        x.give(1, 0, 0, 9);
        x.pass(3);
        x.hear(0, 7, false);
        due("seven would do", x.hoard(0, 0, 0), 7);
        due("as it was laid, in another village", x.hoard(1, 0, 0), 31);
        due("now stays", x.stock(0, 0), 15);
        due("season stays", x.count(4), 3);
    }

    private static void hoards() {
        CHECKS.sentence("term 4: HOARD: how many N (0 to 30) there are");
        String eight = "v0,0;t0;s0,0,5;" + "w0,0,1;".repeat(8);
        due("nothing heard", Checks.laid(eight).hoard(0, 0, 0), 31);
        due("nothing heard, the lowest", Checks.laid(eight).hoard(0, 0, 1), 0);
        heard(eight, 5, 4, true, 1, 30);
        heard(eight, 5, 4, false, 30, 0);
        heard(eight, 4, 4, true, 2, 29);
        heard(eight, 6, 4, true, 0, NONE);
        heard(eight, 6, 4, false, 31, 0);
        heard(eight, 0, 1, false, 1, 0);
        CHECKS.sentence("term 4: had it had so many at first");
        heard("v0,0;t0;s0,0,0;w0,0,1;", 0, 3, true, 28, 3);
        heard("v0,0;t0;s0,0,30;w0,0,1;", 0, 3, false, 3, 0);
        heard("v0,0;t1;n1;s0,0,30;w0,0,1;", 0, 3, true, 31, 0);
        heard("v0,0;t1;n1;s0,0,30;w0,0,1;", 0, 3, false, 0, NONE);
        CHECKS.sentence("term 4: all that is HEARD would be so; the lowest; none. promise 26: NONE");
        FamineOfVerbs x = Checks.laid("v0,0;v0,0;t0;t0;s0,1,2;w0,0,1;w0,1,1;");
        x.hear(0, 4, true);
        x.hear(0, 9, false);
        due("4 to 8", x.hoard(0, 0, 0), 5);
        due("four", x.hoard(0, 0, 1), 4);
        x.hear(0, 5, false);
        due("four alone", x.hoard(0, 0, 0), 1);
        x.hear(1, 2, true);
        due("as it is", x.hoard(0, 0, 0), 1);
        due("of another verb", x.hoard(0, 1, 1), NONE);
        x.hear(1, 3, true);
        due("it has 2 alone of verb 1", x.hoard(0, 0, 0), 0);
        x.hear(0, 4, false);
        due("it was and it was not", x.hoard(0, 0, 1), NONE);
        CHECKS.sentence("promise 26: BAD");
        CHECKS.bad("hoard", x.hoard(2, 0, 0), x.hoard(-1, 0, 0), x.hoard(0, 2, 0), x.hoard(0, -1, 0), x.hoard(0, 0, 2),
                x.hoard(0, 0, -1), x.hoard(2, 2, 1));
    }

    private static void caravans() {
        CHECKS.sentence("term 4: CARAVAN: taking n (1 to 9): in the next 8 SEASONS, and 1000");
        FamineOfVerbs to = Checks.laid("v0,0;t0;t0;s0,0,30;w1,0,9;");
        due("one", to.caravan(0, 1, 0, 1), 1009);
        due("seven", to.caravan(0, 1, 0, 7), 1063);
        due("eight", to.caravan(0, 1, 0, 8), 1072);
        due("the ninth is not used in 8", to.caravan(0, 1, 0, 9), 1072);
        FamineOfVerbs from = Checks.laid("v0,0;t0;t0;s0,0,9;w0,0,9;");
        due("eight stay", from.caravan(0, 1, 0, 1), 1000);
        due("seven stay", from.caravan(0, 1, 0, 2), 991);
        due("all are taken", from.caravan(0, 1, 0, 9), 928);
        CHECKS.sentence("term 4: now: by how much more all WORKS would be worth");
        FamineOfVerbs both = Checks.laid("v1,0;t0;t0;s0,0,9;w0,0,2;w1,0,5;w1,0,1;");
        due("a small one, seasons 0 and 1: two and one", both.caravan(0, 1, 0, 1), 1000 + 5 + 5 + 1);
        both.pass(1);
        due("a small one, season 1", both.caravan(0, 1, 0, 1), 1005);
        FamineOfVerbs grown = Checks.laid("v0,9;v1,0;t0;t0;s0,0,1;w0,0,2;s0,1,9;");
        grown.sow(0, 0);
        due("the crop comes", grown.caravan(0, 1, 1, 9), 1000);
        due("none is left to take", grown.caravan(0, 1, 0, 1), NO);
        CHECKS.sentence("promise 27: BAD (alike, too); NO");
        FamineOfVerbs x = Checks.laid("v0,0;t0;t0;t0;s0,0,5;s1,0,30;s2,0,30;");
        CHECKS.bad("caravan", x.caravan(0, 0, 0, 1), x.caravan(2, 2, 0, 1), x.caravan(0, 1, 0, 0), x.caravan(0, 1, 0, 10),
                x.caravan(0, 1, 0, -1), x.caravan(0, 3, 0, 1), x.caravan(3, 0, 0, 1), x.caravan(0, 1, 1, 1),
                x.caravan(-1, 1, 0, 1), x.caravan(0, -1, 0, 1), x.caravan(0, 1, -1, 1), x.caravan(3, 3, 0, 1));
        due("five of five", x.caravan(0, 1, 0, 5), 1000);
        due("six of five", x.caravan(0, 1, 0, 6), NO);
        CHECKS.sentence("promise 27: FULL: above 60");
        x.give(1, 2, 0, 26);
        due("56 and 4", x.caravan(0, 2, 0, 4), 1000);
        due("56 and 5", x.caravan(0, 2, 0, 5), FULL);
        due("NO is first", x.caravan(0, 2, 0, 6), NO);
        due("NO is first of 4", x.caravan(1, 2, 0, 9), NO);
        due("BAD is first", x.caravan(0, 2, 0, 10), BAD);
    }

    /** Worth (a work of a plain verb, worth 1, for each pair told) and FORGOTTEN, with bounds that the document sets or others. */
    private static int[] decadeByHand(int[][] has, int[][] works, int z, int n, int least, int most) {
        int done = 0;
        for (int k = 0; k < n; k++) {
            BigInteger x = BigInteger.valueOf(z).multiply(BigInteger.valueOf(7919))
                    .add(BigInteger.valueOf(k).multiply(BigInteger.valueOf(6151))).add(BigInteger.ONE);
            int draw = x.multiply(x).mod(BigInteger.valueOf(65521)).divide(BigInteger.valueOf(8)).intValue();
            int[] row = has[draw % has.length];
            int v = draw / 16 % row.length;
            row[v] = draw / 8 % 2 == 1 ? Math.min(most, row[v] + 1) : Math.max(least, row[v] - 1);
            for (int[] work : works) {
                if (has[work[0]][work[1]] > 0) {
                    has[work[0]][work[1]]--;
                    done++;
                }
            }
            for (int[] each : has) {
                for (int u = 0; u < each.length; u++) {
                    each[u] -= each[u] >= 40 ? each[u] / 10 : 0;
                }
            }
        }
        return new int[] {done, n * works.length - done};
    }

    private static void decade(String label, FamineOfVerbs x, int z, int n, int[] wants) {
        due(label + " decade " + z + " of " + n, x.decade(z, n, 0), wants[0]);
        due(label + " decade " + z + " of " + n + ", forgotten", x.decade(z, n, 1), wants[1]);
    }

    private static void decades() {
        CHECKS.sentence("term 4: A DECADE by z (0 to 9999) of n (1 to 40) SEASONS");
        String text = "v0,0;v0,0;v0,0;t0;t0;s0,0,9;s1,2,9;w0,0,1;w0,1,1;w1,2,1;w1,0,1;";
        int[][] works = {{0, 0}, {0, 1}, {1, 2}, {1, 0}};
        FamineOfVerbs x = Checks.laid(text);
        for (int z : new int[] {0, 1, 4999, 9998, 9999}) {
            for (int n : new int[] {1, 2, 39, 40}) {
                int[][] has = {{9, 0, 0}, {0, 0, 9}};
                decade("of " + text, x, z, n, decadeByHand(has, works, z, n, 0, 60));
            }
        }
        CHECKS.sentence("term 4: ahead of the k-th (0 first) from now on");
        x.pass(9);
        decade("behind 9 seasons", x, 77, 40, decadeByHand(new int[2][3], works, 77, 40, 0, 60));
        due("nothing goes by", x.count(4), 9);
        CHECKS.sentence("promise 28: BAD");
        CHECKS.bad("decade", x.decade(-1, 1, 0), x.decade(10000, 1, 0), x.decade(0, 0, 0), x.decade(0, 41, 0),
                x.decade(0, 1, 2), x.decade(0, 1, -1), x.decade(0, -1, 0), x.decade(Checks.LEAST, 40, 1));
    }

    private static void decadesOfMany() {
        CHECKS.sentence("term 4: VILLAGE DRAW modulo as many as there are, VERB modulo as many as there are");
        int[][] works = {{0, 0}};
        for (int villages = 1; villages <= 4; villages++) {
            for (int verbs = 1; verbs <= 6; verbs++) {
                FamineOfVerbs x = Checks.laid("v0,0;".repeat(verbs) + "t0;".repeat(villages) + "w0,0,1;");
                for (int z = 0; z < 10; z++) {
                    int n = 31 + z;
                    decade(villages + " and " + verbs, x, z, n, decadeByHand(new int[villages][verbs], works, z, n, 0, 60));
                }
            }
        }
    }

    /** Seen by decades in which another bound would tell another worth. */
    private static void decadesAtTheBounds() {
        CHECKS.sentence("term 4: (0 at least, 60 at most)");
        FamineOfVerbs none = Checks.laid("v0,0;t0;w0,0,1;");
        FamineOfVerbs sixty = Checks.laid("v0,0;t0;t0;s0,0,30;s1,0,30;" + "w0,0,1;".repeat(8));
        sixty.give(1, 0, 0, 30);
        int[][] one = {{0, 0}};
        int[][] eight = {{0, 0}, {0, 0}, {0, 0}, {0, 0}, {0, 0}, {0, 0}, {0, 0}, {0, 0}};
        int below = 0;
        int above = 0;
        for (int z = 0; z < 60; z++) {
            int[] wants = decadeByHand(new int[1][1], one, z, 40, 0, 60);
            decade("none", none, z, 40, wants);
            below += decadeByHand(new int[1][1], one, z, 40, -1, 60)[0] != wants[0] ? 1 : 0;
            wants = decadeByHand(new int[][] {{60}, {0}}, eight, z, 40, 0, 60);
            decade("sixty", sixty, z, 40, wants);
            above += decadeByHand(new int[][] {{60}, {0}}, eight, z, 40, 0, 61)[0] != wants[0] ? 1 : 0;
        }
        CHECKS.due("0 tells", below > 0, true);
        CHECKS.due("60 tells", above > 0, true);
        due("none less than none: it is forgotten", none.decade(0, 1, 1), 1);
    }

    private static void keeping() {
        CHECKS.sentence("term 4: KEPT: 2 at most. promise 29: how many. FULL");
        FamineOfVerbs x = Checks.laid("v0,4;t0;t0;s0,0,20;w0,0,2;");
        due("keep", x.keep(), 1);
        x.pass(1);
        due("keep again", x.keep(), 2);
        x.pass(1);
        due("a third", x.keep(), FULL);
        due("still two", x.count(8), 2);
        CHECKS.sentence("promise 30: As KEPT last (it is KEPT no more then): how many are left; NO");
        due("the second", x.back(), 1);
        due("season 1", x.count(4), 1);
        due("one is kept", x.count(8), 1);
        due("the first", x.back(), 0);
        due("season 0", x.count(4), 0);
        due("no more", x.back(), NO);
        due("none", x.count(8), 0);
        due("of a new object", new FamineOfVerbs().back(), NO);
        x.pass(3);
        due("keep", x.keep(), 1);
        due("keep the same", x.keep(), 2);
        due("back to it", x.back(), 1);
        due("and again", x.back(), 0);
        due("season 3", x.count(4), 3);
        CHECKS.sentence("term 4: behind which nothing can be UNDONE. promise 30: nothing is UNDONE then");
        x.pass(1);
        x.keep();
        x.give(0, 1, 0, 1);
        due("two can be", x.count(7), 2);
        due("back", x.back(), 0);
        due("none can be", x.count(7), 0);
        due("undo", x.undo(), NO);
        x.pass(1);
        due("refused back", x.back(), NO);
        due("one can be", x.count(7), 1);
        due("undo of one", x.undo(), 0);
    }

    private static void whatIsKept() {
        CHECKS.sentence("term 4: KEPT is all as it stands, but what is HEARD and THE TEXT (these stay by back()");
        FamineOfVerbs x = Checks.laid("v0,4;v1,6;t0;t0;s0,0,20;s0,1,9;w0,0,2;w1,0,3;");
        x.pass(3);
        x.sow(0, 1);
        x.hear(0, 1, true);
        String standing = Checks.standingOf(x);
        CHECKS.due("kept", standing, "| 1 17 8 | -4 0 0 / 3 0 / 0 3 ");
        x.keep();
        x.pass(2);
        x.give(0, 1, 0, 5);
        x.give(0, 1, 1, 3);
        x.sow(0, 0);
        x.sow(1, 1);
        x.hear(1, 1, true);
        x.wipe();
        x.write('v');
        CHECKS.due("it stands otherwise", Checks.standingOf(x).equals(standing), false);
        due("back", x.back(), 0);
        CHECKS.due("as kept", Checks.standingOf(x), standing);
        due("the season is kept", x.count(4), 3);
        due("what is heard stays", x.count(6), 2);
        due("and is asked", x.hoard(0, 0, 0), 0);
        due("the text stays", x.count(9), 1);
        due("the next season is 3", x.pass(1), 4);
        due("what is sown is kept", x.stock(0, 1), 14);
        Checks.write(x, "0,4;t0;t0;");
        CHECKS.sentence("term 4: KEPT stays by undo and goes by lay");
        x.pass(1);
        x.keep();
        x.undo();
        due("kept stays", x.count(8), 1);
        due("laid", x.lay(), 2);
        due("kept no more", x.count(8), 0);
        due("no back", x.back(), NO);
    }

    /** Kept and fetched many times over, two of them at most. */
    private static void keepingForthAndBack() {
        CHECKS.sentence("term 4: KEPT: 2 at most (again and again)");
        FamineOfVerbs x = Checks.laid("v0,4;t0;s0,0,20;w0,0,2;");
        int first = -1;
        int second = -1;
        for (int i = 0; i < 60; i++) {
            int now = x.pass(1 + i % 3);
            if (i % 5 < 3) {
                due("keep " + i, x.keep(), first < 0 ? 1 : second < 0 ? 2 : FULL);
                second = first >= 0 && second < 0 ? now : second;
                first = first < 0 ? now : first;
            } else {
                int want = second >= 0 ? second : first;
                due("back " + i, x.back(), second >= 0 ? 1 : first >= 0 ? 0 : NO);
                due("season " + i, x.count(4), want >= 0 ? want : now);
                first = second >= 0 ? first : -1;
                second = -1;
            }
        }
    }

    private static void counts() {
        CHECKS.sentence("promise 31: How many: 0 VERBS .. 9 letters of THE TEXT. BAD");
        FamineOfVerbs most = Checks.laid("v0,9;".repeat(6) + "n1;".repeat(8) + "t0;".repeat(4) + "w0,0,1;".repeat(8)
                + "s0,0,30;s1,1,30;s2,2,30;s3,5,30;");
        int[] wants = {6, 8, 4, 8, 0, 120, 0, 0, 0, 154};
        for (int what = 0; what < wants.length; what++) {
            due("count " + what + " of the most", most.count(what), wants[what]);
        }
        FamineOfVerbs least = Checks.laid("v0,9;t0;");
        least.wipe();
        int[] few = {1, 0, 1, 0, 0, 0, 0, 0, 0, 0};
        for (int what = 0; what < few.length; what++) {
            due("count " + what + " of the least", least.count(what), few[what]);
        }
        CHECKS.bad("count", least.count(-1), least.count(10), least.count(Checks.MOST), least.count(Checks.LEAST));
        for (int i = 0; i < 9; i++) {
            most.pass(1);
            most.hear(0, 1, true);
            most.keep();
        }
        due("seasons", most.count(4), 9);
        due("six heard", most.count(6), 6);
        due("eight undone", most.count(7), 8);
        due("two kept", most.count(8), 2);
    }

    public static void main(String[] args) {
        bred();
        hearing();
        seasonsHeard();
        hoards();
        caravans();
        decades();
        decadesOfMany();
        decadesAtTheBounds();
        keeping();
        whatIsKept();
        keepingForthAndBack();
        counts();
        CHECKS.end();
    }
}
