/** Promises 1 to 10: a new object, THE TEXT, FAULT, LAID, and what is told. */
public final class LandsTest {
    private static final Checks CHECKS = new Checks();
    private static final int LEAST = Checks.LEAST, MOST = Checks.MOST;

    private static void due(String call, int got, int want) {
        CHECKS.due(call, got, want);
    }

    private static void newObject() {
        FamineOfVerbs x = new FamineOfVerbs();
        CHECKS.due("a new object", Checks.stateOf(x),
                "4 5 2 5 0 15 0 0 0 0 | -4 4 0 2 0 | -4 1 3 0 5 / 0 0 / 0 0 / 0 0 / 0 0 / 0 0 ");
        due("undo of a new object", x.undo(), Checks.NO);
        due("back of a new object", x.back(), Checks.NO);
        due("fault of an empty text", x.fault(), Checks.NONE);
        due("lay of an empty text", x.lay(), Checks.NO);
        CHECKS.due("two objects stand apart", new FamineOfVerbs().write('v') + x.count(9), 1);
    }

    private static void writing() {
        FamineOfVerbs x = new FamineOfVerbs();
        CHECKS.bad("write", x.write(31), x.write(127), x.write(0), x.write(-1), x.write(LEAST), x.write(MOST),
                x.write(32 + 256), x.write(118 + 65536));
        due("nothing is written", x.count(9), 0);
        due("write(32)", x.write(32), 1);
        due("write(126)", x.write(126), 2);
        due("wipe", x.wipe(), 2);
        due("wipe again", x.wipe(), 0);
        for (int i = 1; i <= 200; i++) {
            due("write " + i, x.write('v'), i);
        }
        due("write 201", x.write('v'), Checks.FULL);
        due("BAD stands ahead of FULL", x.write(127), Checks.BAD);
        due("count(9)", x.count(9), 200);
        due("wipe of 200", x.wipe(), 200);
        due("count(9) wiped", x.count(9), 0);
    }

    private static void fault(String text, int want) {
        FamineOfVerbs x = new FamineOfVerbs();
        Checks.write(x, text);
        due("fault of " + text, x.fault(), want);
        String before = Checks.stateOf(x);
        if (want != Checks.NONE) {
            due("lay of " + text, x.lay(), Checks.NO);
            CHECKS.due("a refused lay of " + text, Checks.stateOf(x), before);
        }
    }

    private static void faultsOfForm() {
        fault("v0,0;", Checks.NONE);
        fault("v00,09;n01;", Checks.NONE);
        fault("v0,0", 0);
        fault("v0,", 0);
        fault("v0", 0);
        fault("v", 0);
        fault(";", 0);
        fault("v;", 0);
        fault("v0;", 0);
        fault("v0,0,0;", 0);
        fault("v,0;", 0);
        fault("v0,;", 0);
        fault("v0;0;", 0);
        fault("v000,0;", 0);
        fault("v0,000;", 0);
        fault("v 0,0;", 0);
        fault("v0,0;;", 5);
        fault("v0,0; n1;", 5);
        fault("v0,0;n1,1;", 5);
        fault("v0,0;n1,", 5);
        fault("v0,0;V0,0;", 5);
        fault("v0,0;x1;", 5);
        fault("v0,0;1;", 5);
        fault("v0,0;n1;n64;n99;", 8);
        fault("v0,0;t1;s0,0;", 8);
        fault("v0,0;t1;s0,0,1,1;", 8);
        fault("v0,0;t1;w0,0;", 8);
        fault("v0,0;t1,1;", 5);
        fault("v0,/;", 0);
        fault("v0,:;", 0);
        fault("v-1,0;", 0);
    }

    private static void faultsOfNumbers() {
        fault("v3,9;", Checks.NONE);
        fault("v4,0;", 0);
        fault("v0,10;", 0);
        fault("n1;n63;t0;t63;", Checks.NONE);
        fault("n0;", 0);
        fault("n64;", 0);
        fault("t64;", 0);
        fault("v0,0;t0;s0,0,0;s0,0,30;w0,0,1;w0,0,9;", Checks.NONE);
        fault("v0,0;t0;s0,0,31;", 8);
        fault("v0,0;t0;s1,0,1;", 8);
        fault("v0,0;t0;s0,1,1;", 8);
        fault("v0,0;t0;w0,0,0;", 8);
        fault("v0,0;t0;w0,0,10;", 8);
        fault("v0,0;t0;w1,0,1;", 8);
        fault("v0,0;t0;w0,1,1;", 8);
        fault("t0;s0,0,1;v0,0;", 3);
        fault("v0,0;w0,0,1;t0;", 5);
        fault("v0,0;s0,0,1;t0;", 5);
        fault("t0;w0,0,1;v0,0;", 3);
    }

    private static void faultsOfMany() {
        String verbs = "v0,0;v0,0;v0,0;v0,0;v0,0;v0,0;";
        fault(verbs, Checks.NONE);
        fault(verbs + "v0,0;", 30);
        fault("n1;n1;n1;n1;n1;n1;n1;n1;", Checks.NONE);
        fault("n1;n1;n1;n1;n1;n1;n1;n1;n1;", 24);
        fault("t1;t1;t1;t1;", Checks.NONE);
        fault("t1;t1;t1;t1;t1;", 12);
        String works = "v0,0;t0;w0,0,1;w0,0,1;w0,0,1;w0,0,1;w0,0,1;w0,0,1;w0,0,1;w0,0,1;";
        fault(works, Checks.NONE);
        fault(works + "w0,0,1;", 64);
        StringBuilder longest = new StringBuilder("v0,0;t0;");
        while (longest.length() + 8 <= 200) {
            longest.append("s0,0,10;");
        }
        fault(longest.toString(), Checks.NONE);
        FamineOfVerbs x = Checks.laid(longest.toString());
        due("a text of 200", x.count(9), 200);
        due("the last of many", x.stock(0, 0), 10);
    }

    private static void laying() {
        FamineOfVerbs x = new FamineOfVerbs();
        Checks.write(x, "v0,1;");
        due("no village", x.lay(), Checks.NO);
        x.wipe();
        Checks.write(x, "n1;t1;");
        due("no verb", x.lay(), Checks.NO);
        x.wipe();
        x.pass(3);
        x.give(0, 1, 2, 1);
        x.sow(1, 1);
        x.keep();
        x.hear(0, 1, true);
        Checks.write(x, "v1,2;t0;t3;t1;");
        due("lay", x.lay(), 3);
        CHECKS.due("laid", Checks.stateOf(x), "1 0 3 0 0 0 0 0 0 14 | -4 0 | -4 0 | -4 0 ");
        due("the text stays", x.lay(), 3);
        due("no undo", x.undo(), Checks.NO);
        due("no back", x.back(), Checks.NO);
        due("readings without nouns", x.readings(1), Checks.BAD);
    }

    private static void layingAgain() {
        FamineOfVerbs x = Checks.laid("v0,0;t0;s0,0,9;w0,0,2;");
        x.pass(4);
        x.sow(0, 0);
        x.hear(0, 1, false);
        x.keep();
        due("stock before", x.stock(0, 0), 4);
        due("laid again", x.lay(), 1);
        CHECKS.due("as at first", Checks.stateOf(x), "1 0 1 1 0 9 0 0 0 22 | -4 9 / 0 0 ");
        x.pass(2);
        x.keep();
        x.hear(0, 1, false);
        x.write('x');
        String before = Checks.stateOf(x);
        due("a faulty text", x.lay(), Checks.NO);
        CHECKS.due("nothing has changed", Checks.stateOf(x), before);
        due("fault", x.fault(), 22);
        CHECKS.due("fault changes nothing", Checks.stateOf(x), before);
        due("back stays", x.back(), 0);
    }

    private static void readingLeavesTheLand() {
        FamineOfVerbs x = Checks.laid("v0,0;t1;n1;s0,0,9;w0,0,2;");
        x.wipe();
        Checks.write(x, "v3,9;v2,8;t2;t3;n2;n3;");
        String before = Checks.stateOf(x);
        due("another text", x.fault(), Checks.NONE);
        CHECKS.due("the land stays", Checks.stateOf(x), before);
        due("its kind stays", x.verb(0, 0), 0);
        due("its noun stays", x.noun(0), 1);
        x.pass(10);
        due("forgotten none", x.work(0, 4), 0);
        Checks.write(x, "x");
        due("a refused text", x.lay(), Checks.NO);
        due("its village stays", x.village(0, 0), 1);
        due("its work stays", x.work(0, 2), 2);
    }

    private static void layingForgets() {
        FamineOfVerbs x = Checks.laid("v0,0;t0;w0,0,2;");
        x.pass(10);
        due("forgotten", x.work(0, 4), 10);
        x.lay();
        due("forgotten none", x.work(0, 4), 0);
    }

    private static void verbsAndNouns() {
        FamineOfVerbs x = Checks.laid("n63;v1,4;v2,9;t0;t0;v3,0;s0,1,30;s1,1,7;s1,1,8;n5;n56;");
        due("kind 0", x.verb(0, 0), 1);
        due("kind 1", x.verb(1, 0), 2);
        due("kind 2", x.verb(2, 0), 3);
        due("crop 0", x.verb(0, 1), 4);
        due("crop 1", x.verb(1, 1), 9);
        due("crop 2", x.verb(2, 1), 0);
        due("how many of 0", x.verb(0, 2), 0);
        due("how many of 1", x.verb(1, 2), 38);
        CHECKS.bad("verb", x.verb(3, 0), x.verb(-1, 0), x.verb(0, -1), x.verb(0, 3), x.verb(LEAST, 0),
                x.verb(MOST, 2), x.verb(0, LEAST), x.verb(0, MOST));
        due("noun 0 of those there are", x.noun(0), 7);
        due("noun 1", x.noun(1), 5);
        due("noun 2 brings none that is there", x.noun(2), 0);
        CHECKS.bad("noun", x.noun(3), x.noun(-1), x.noun(LEAST), x.noun(MOST));
        due("stock, the last one told", x.stock(1, 1), 8);
        due("stock of 30", x.stock(0, 1), 30);
        CHECKS.bad("stock", x.stock(2, 0), x.stock(-1, 0), x.stock(0, 3), x.stock(0, -1),
                x.stock(LEAST, 0), x.stock(MOST, MOST), x.stock(0, LEAST), x.stock(0, 6));
    }

    private static void villages() {
        FamineOfVerbs x = Checks.laid("t0;t5;t63;v0,0;v0,0;v0,0;n1;n2;n4;n3;n6;n5;n6;n3;");
        due("only those that all have", x.village(0, 0), 192);
        due("nouns of 1", x.village(1, 0), 197);
        due("nouns of 2", x.village(2, 0), 255);
        due("nothing is sown", x.village(0, 1), Checks.NONE);
        due("said by 6 and 3 together", x.village(0, 2), 2);
        due("said in 1", x.village(1, 2), 7);
        due("said in 2", x.village(2, 2), 7);
        CHECKS.bad("village", x.village(3, 0), x.village(-1, 0), x.village(0, -1), x.village(0, 3),
                x.village(LEAST, 0), x.village(MOST, 0), x.village(0, LEAST), x.village(0, MOST));
        FamineOfVerbs few = Checks.laid("t63;v0,0;v0,0;n1;n4;");
        due("nouns there are", few.village(0, 0), 3);
        due("a verb that is not there is not said", few.village(0, 2), 1);
    }

    private static void works() {
        FamineOfVerbs x = Checks.laid("v0,0;v0,0;t0;t0;s1,0,2;w1,0,9;w0,1,1;");
        due("village", x.work(0, 0), 1);
        due("verb", x.work(0, 1), 0);
        due("worth", x.work(0, 2), 9);
        due("village of 1", x.work(1, 0), 0);
        due("verb of 1", x.work(1, 1), 1);
        due("worth of 1", x.work(1, 2), 1);
        x.pass(5);
        due("done", x.work(0, 3), 2);
        due("forgotten", x.work(0, 4), 3);
        due("done of 1", x.work(1, 3), 0);
        due("forgotten of 1", x.work(1, 4), 5);
        CHECKS.bad("work", x.work(2, 0), x.work(-1, 0), x.work(0, 5), x.work(0, -1), x.work(LEAST, 0),
                x.work(MOST, 0), x.work(0, LEAST), x.work(0, MOST));
    }

    public static void main(String[] args) {
        newObject();
        writing();
        faultsOfForm();
        faultsOfNumbers();
        faultsOfMany();
        laying();
        layingAgain();
        readingLeavesTheLand();
        layingForgets();
        verbsAndNouns();
        villages();
        works();
        CHECKS.end();
    }
}
