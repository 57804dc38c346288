/** Promises 23 to 31: BRED, HEARD, HOARD, CARAVAN, DECADE, KEPT, count. */
public final class FieldsTest {
    private static final Checks CHECKS = new Checks();
    private static final int LEAST = Checks.LEAST, MOST = Checks.MOST;

    private static void due(String call, int got, int want) {
        CHECKS.due(call, got, want);
    }

    private static void bred() {
        FamineOfVerbs x = Checks.laid("v0,1;v1,1;v1,1;v3,1;t0;t0;t0;s0,0,1;s0,3,1;s1,1,1;s1,2,1;s1,3,2;s2,2,2;");
        due("what it has", x.bred(0), 9);
        due("one of each small one", x.bred(1), 14);
        due("two small ones breed all", x.bred(2), 15);
        x.sow(2, 0);
        due("the field is not free", x.bred(2), 0);
        x.pass(1);
        due("free again", x.bred(2), 1);
        CHECKS.bad("bred", x.bred(3), x.bred(-1), x.bred(LEAST), x.bred(MOST));
    }

    private static void hearing() {
        FamineOfVerbs x = Checks.laid("v0,0;t0;w0,0,1;");
        CHECKS.bad("hear", x.hear(1, 1, true), x.hear(-1, 1, true), x.hear(0, 0, true), x.hear(0, 10, false),
                x.hear(LEAST, 1, true), x.hear(0, MOST, false), x.hear(0, LEAST, true), x.hear(MOST, 1, true));
        due("nothing heard", x.forget(), 0);
        for (int i = 1; i <= 6; i++) {
            due("hear " + i, x.hear(0, i == 1 ? 1 : 9, false), i);
        }
        due("the seventh", x.hear(0, 1, false), Checks.FULL);
        due("BAD ahead of FULL", x.hear(0, 10, false), Checks.BAD);
        due("six", x.count(6), 6);
        due("one fits", x.hoard(0, 0, 0), 1);
        due("forget", x.forget(), 6);
        due("none", x.count(6), 0);
        due("hear again", x.hear(0, 1, true), 1);
        due("what was forgotten is not asked", x.hoard(0, 0, 0), 30);
    }

    private static void hoards() {
        FamineOfVerbs x = Checks.laid("v0,2;v1,0;t0;t0;s0,0,7;s0,1,2;w0,0,3;w1,0,5;w0,1,1;w0,0,2;");
        due("all 31", x.hoard(0, 0, 0), 31);
        due("from 0", x.hoard(0, 0, 1), 0);
        x.pass(4);
        x.sow(1, 0);
        x.give(0, 1, 1, 1);
        x.hear(0, 3, true);
        due("five at least", x.hoard(0, 0, 1), 5);
        due("26", x.hoard(0, 0, 0), 26);
        x.hear(3, 4, false);
        due("seven at most", x.hoard(0, 0, 0), 3);
        due("lowest", x.hoard(0, 0, 1), 5);
        due("of another verb: as laid it is so", x.hoard(0, 1, 0), 31);
        x.hear(0, 1, false);
        due("it cannot be", x.hoard(0, 0, 0), 0);
        due("none", x.hoard(0, 0, 1), Checks.NONE);
        due("nor for another one", x.hoard(1, 1, 0), 0);
        x.forget();
        x.hear(2, 9, true);
        due("four small ones less by then", x.hoard(0, 1, 1), 5);
        due("26 of them", x.hoard(0, 1, 0), 26);
        due("none by another verb", x.hoard(0, 0, 1), Checks.NONE);
        CHECKS.bad("hoard", x.hoard(2, 0, 0), x.hoard(-1, 0, 0), x.hoard(0, 2, 0), x.hoard(0, -1, 0),
                x.hoard(0, 0, 2), x.hoard(0, 0, -1), x.hoard(LEAST, 0, 0), x.hoard(0, MOST, 0), x.hoard(0, 0, MOST));
        due("nothing is changed", x.count(4), 4);
    }

    private static void hoardByStart() {
        FamineOfVerbs x = Checks.laid("v3,0;t0;s0,0,30;w0,0,3;");
        x.hear(0, 9, true);
        due("17 holy ones", x.hoard(0, 0, 1), 17);
        x.forget();
        x.hear(0, 2, false);
        due("0, 1, 2", x.hoard(0, 0, 0), 3);
        FamineOfVerbs plain = Checks.laid("v0,0;t0;w0,0,3;");
        plain.hear(0, 1, true);
        due("30 is the most", plain.hoard(0, 0, 0), 30);
        due("1 is the least", plain.hoard(0, 0, 1), 1);
    }

    private static void caravans() {
        FamineOfVerbs x = Checks.laid("v0,0;t0;t0;t0;s0,0,12;s2,0,30;w0,0,4;w1,0,7;");
        String before = Checks.stateOf(x);
        due("three spare, one worth 7", x.caravan(0, 1, 0, 3), 1021);
        due("nine: eight used, five lost", x.caravan(0, 1, 0, 9), 1000 + 56 - 20);
        due("from who needs none", x.caravan(2, 1, 0, 8), 1056);
        due("to who needs none", x.caravan(0, 2, 0, 9), 1000 - 20);
        due("too many", x.caravan(1, 0, 0, 1), Checks.NO);
        CHECKS.bad("caravan", x.caravan(0, 0, 0, 1), x.caravan(0, 1, 0, 0), x.caravan(0, 1, 0, 10),
                x.caravan(3, 1, 0, 1), x.caravan(0, 3, 0, 1), x.caravan(0, 1, 1, 1), x.caravan(-1, 1, 0, 1),
                x.caravan(LEAST, 1, 0, 1), x.caravan(0, MOST, 0, 1), x.caravan(0, 1, -1, 1),
                x.caravan(0, 1, 0, MOST), x.caravan(1, 1, 0, 99));
        CHECKS.due("nothing moves", Checks.stateOf(x), before);
    }

    private static void fullCaravans() {
        FamineOfVerbs x = Checks.laid("v0,0;t0;t0;t0;s0,0,30;s1,0,30;s2,0,9;w0,0,1;");
        x.give(0, 1, 0, 29);
        due("59 and 1", x.caravan(2, 1, 0, 1), 1000);
        due("59 and 2", x.caravan(2, 1, 0, 2), Checks.FULL);
        due("NO ahead of FULL", x.caravan(0, 1, 0, 2), Checks.NO);
        due("seven more", x.caravan(2, 0, 0, 9), 1007);
    }

    private static void keeping() {
        FamineOfVerbs x = Checks.laid("v0,3;t0;t0;s0,0,9;w0,0,3;");
        due("nothing kept", x.back(), Checks.NO);
        due("keep", x.keep(), 1);
        x.pass(2);
        x.sow(0, 0);
        x.hear(0, 3, false);
        due("keep two", x.keep(), 2);
        String second = Checks.stateOf(x);
        due("a third", x.keep(), Checks.FULL);
        CHECKS.due("refused", Checks.stateOf(x), second);
        due("undo stays by keep", x.count(7), 2);
        x.pass(5);
        x.hear(0, 4, false);
        x.write('q');
        due("back", x.back(), 1);
        CHECKS.due("as kept last", Checks.stateOf(x), "1 0 2 1 2 6 2 0 1 26 | 0 6 | -4 0 / 2 0 ");
        due("nothing is undone", x.undo(), Checks.NO);
        x.pass(1);
        due("undo behind it", x.undo(), 0);
        due("keep again", x.keep(), 2);
        x.give(0, 1, 0, 6);
        due("back again", x.back(), 1);
        due("stock", x.stock(0, 0), 6);
        due("back to the first", x.back(), 0);
        CHECKS.due("as at first, but what is heard", Checks.stateOf(x), "1 0 2 1 0 9 2 0 0 26 | -4 9 | -4 0 / 0 0 ");
        String before = Checks.stateOf(x);
        due("no more", x.back(), Checks.NO);
        CHECKS.due("refused back", Checks.stateOf(x), before);
    }

    private static void keptIsNotUndone() {
        FamineOfVerbs x = Checks.laid("v0,3;t0;t0;s0,0,9;w0,0,3;");
        x.pass(1);
        x.keep();
        x.pass(1);
        x.undo();
        x.undo();
        due("undone past what is kept", x.count(4), 0);
        x.pass(3);
        due("a refused back leaves undo", x.count(7), 1);
        due("back", x.back(), 0);
        due("one season", x.count(4), 1);
        x.pass(1);
        due("refused", x.back(), Checks.NO);
        due("undo stays behind a refused back", x.count(7), 1);
    }

    private static void counting() {
        FamineOfVerbs x = Checks.laid("v0,3;v1,1;v0,0;n1;n2;t0;t0;t1;t2;s0,0,9;s1,1,8;w0,0,3;");
        int[] wants = {3, 2, 4, 1, 0, 17, 0, 0, 0, 54};
        for (int what = 0; what < wants.length; what++) {
            due("count " + what, x.count(what), wants[what]);
        }
        x.pass(3);
        x.give(1, 0, 1, 1);
        x.hear(0, 1, true);
        x.keep();
        x.wipe();
        int[] later = {3, 2, 4, 1, 3, 14, 1, 2, 1, 0};
        for (int what = 0; what < later.length; what++) {
            due("later count " + what, x.count(what), later[what]);
        }
        CHECKS.bad("count", x.count(-1), x.count(10), x.count(LEAST), x.count(MOST));
    }

    /** The first DRAW of z = 0 is 0: village 0 has 1 less of verb 0. */
    private static void decades() {
        FamineOfVerbs x = Checks.laid("v0,0;v0,0;t0;t0;s0,0,1;s1,0,1;w0,0,3;w1,0,5;");
        String before = Checks.stateOf(x);
        due("season 1 takes one of verb 0 in village 0", x.decade(0, 1, 0), 5);
        due("forgotten in 1", x.decade(0, 1, 1), 1);
        CHECKS.due("nothing goes by", Checks.stateOf(x), before);
        CHECKS.bad("decade", x.decade(-1, 1, 0), x.decade(10000, 1, 0), x.decade(0, 0, 0), x.decade(0, 41, 0),
                x.decade(0, 1, 2), x.decade(0, 1, -1), x.decade(LEAST, 1, 0), x.decade(MOST, 1, 0),
                x.decade(0, LEAST, 0), x.decade(0, MOST, 1), x.decade(0, 1, MOST));
        for (int z : new int[] {0, 1, 77, 9999}) {
            for (int n : new int[] {1, 2, 5, 40}) {
                int[] wants = decadeOfPlainOnes(z, n);
                due("decade " + z + " " + n, x.decade(z, n, 0), wants[0]);
                due("decade forgotten " + z + " " + n, x.decade(z, n, 1), wants[1]);
            }
        }
    }

    /** The land of decades() by hand: two villages, two verbs, worth 3 and 5 by verb 0. */
    private static int[] decadeOfPlainOnes(int z, int n) {
        int[][] has = {{1, 0}, {1, 0}};
        int[] worths = {3, 5};
        int[] sums = new int[2];
        for (int k = 0; k < n; k++) {
            java.math.BigInteger x = java.math.BigInteger.valueOf(7919L * z + 6151L * k + 1);
            int draw = x.modPow(java.math.BigInteger.TWO, java.math.BigInteger.valueOf(65521)).intValue() >> 3;
            int[] chosen = has[draw % 2];
            int v = (draw >> 4) % 2;
            chosen[v] = (draw >> 3) % 2 == 1 ? chosen[v] + 1 : Math.max(0, chosen[v] - 1);
            for (int t = 0; t < 2; t++) {
                if (has[t][0] > 0) {
                    has[t][0]--;
                    sums[0] += worths[t];
                } else {
                    sums[1]++;
                }
            }
        }
        return sums;
    }

    public static void main(String[] args) {
        bred();
        hearing();
        hoards();
        hoardByStart();
        caravans();
        fullCaravans();
        keeping();
        keptIsNotUndone();
        counting();
        decades();
        CHECKS.end();
    }
}
