/** Term 1 and promises 1 to 10: each sentence that names an edge. */
public final class LandEdgesTest {
    private static final Checks CHECKS = new Checks();
    private static final int BAD = Checks.BAD, NO = Checks.NO, FULL = Checks.FULL, NONE = Checks.NONE;
    private static final String AHEAD = "v0,0;t0;";

    private static void due(String call, int got, int want) {
        CHECKS.due(call, got, want);
    }

    private static void fault(String text, int want) {
        due("fault of " + text, Checks.written(text).fault(), want);
    }

    private static void sound(String... texts) {
        for (String text : texts) {
            fault(text, NONE);
        }
    }

    /** Each text is sound up to a place, and the ITEM there is the FAULT. */
    private static void faultAt(int place, String... texts) {
        for (String text : texts) {
            sound(text.substring(0, place));
            fault(text, place);
        }
    }

    private static void textOfLetters() {
        CHECKS.sentence("term 1: A TEXT is letters (200 at most)");
        String all = AHEAD + "s0,0,10;".repeat(24);
        due("its length", all.length(), 200);
        sound(all);
        due("lay of 200", Checks.written(all).lay(), 1);
        fault(all.substring(0, 199), 192);
        fault(all + "x", NONE);
        due("count(9) of 201", Checks.written(all + "x").count(9), 200);
        fault(all.substring(1) + "x", 0);
        fault(all.substring(0, 199) + "x", 192);
    }

    private static void itemsOneBehindTheOther() {
        CHECKS.sentence("term 1: ITEMS one behind the other, each a letter, then numbers");
        sound("", "v0,0;", "v0,0;v0,0;", "n1;t1;v0,0;");
        faultAt(0, " ", ";", "0", "0;", ",", "x;", "x0;", "u0,0;", "V0,0;", "N1;", "T1;", " v0,0;", "vv0,0;", "~");
        faultAt(5, "v0,0; ", "v0,0;;", "v0,0;0", "v0,0;v", "v0,0;V0,0;", "v0,0; t0;");
        faultAt(8, AHEAD + "S0,0,0;", AHEAD + "W0,0,1;", AHEAD + "r0,0,1;", AHEAD + "x");
    }

    private static void oneOrTwoFigures() {
        CHECKS.sentence("term 1: numbers (one or two figures)");
        sound("v03,09;", "v00,00;", "n01;", "t00;", AHEAD + "s00,00,00;", AHEAD + "w00,00,09;", "n63;");
        faultAt(0, "v,0;", "v0,;", "v,;", "v000,0;", "v0,000;", "n;", "n001;", "n063;", "t;", "t000;", "v+1,0;",
                "v-1,0;", "va,0;", "v0,a;", "v 0,0;", "v0 ,0;", "v0, 0;", "v0,0 ;", "v:,0;", "v/,0;", "v0,1:;", "v1/,0;");
        // Signs behind 9 that would be good numbers, were they figures.
        faultAt(0, "n:;", "n;;", "nA;", "n1A;", "t:;", "tA;", "t1:;", "t`;");
        faultAt(8, AHEAD + "s0,0,:;", AHEAD + "s0,0,A;", AHEAD + "s0,0,1:;", AHEAD + "s0,0,;;", AHEAD + "w0,0,a;");
        faultAt(8, AHEAD + "s,0,0;", AHEAD + "s0,,0;", AHEAD + "s0,0,;", AHEAD + "s000,0,0;", AHEAD + "s0,0,000;",
                AHEAD + "w0,0,001;", AHEAD + "w0,0,;");
    }

    private static void partedAndEnded() {
        CHECKS.sentence("term 1: parted by , and a ; behind the last one");
        faultAt(0, "v0;0;", "v0.0;", "v0,0", "v0,0,", "v0,0:", "v00;", "n1", "n1,", "t1", "t1:", "v0,,0;", "v,0,0;");
        faultAt(8, AHEAD + "s0,0;0;", AHEAD + "s0;0,0;", AHEAD + "s0,0,0", AHEAD + "s0,0,0,", AHEAD + "w0,0,1",
                AHEAD + "w0,0,1w0,0,1;");
        CHECKS.sentence("term 1: as many numbers as the ITEM's form tells");
        faultAt(0, "v0;", "v0,0,0;", "n1,1;", "t1,1;", "v;");
        faultAt(8, AHEAD + "s0,0;", AHEAD + "s0;", AHEAD + "s0,0,0,0;", AHEAD + "w0,0;", AHEAD + "w0,0,1,1;");
    }

    private static void verbsTold() {
        CHECKS.sentence("term 1: KIND K (0 PLAIN, 1 SMALL, 2 SEED, 3 HOLY)");
        sound("v0,0;", "v1,0;", "v2,0;", "v3,0;");
        faultAt(0, "v4,0;", "v9,0;", "v10,0;", "v99,0;");
        CHECKS.sentence("term 1: a CROP of C (0 to 9)");
        sound("v0,0;", "v0,9;", "v3,9;");
        faultAt(0, "v0,10;", "v0,11;", "v0,99;");
        CHECKS.sentence("term 1: VERBS: 6 at most, 0, 1, ..");
        String six = "v0,0;".repeat(5) + "v3,9;";
        sound(six);
        faultAt(30, six + "v0,0;", six + "v0,0;v0,0;");
        FamineOfVerbs x = Checks.laid(six + "t0;s0,5,30;");
        due("the sixth", x.verb(5, 0) * 100 + x.verb(5, 1) * 10 + x.stock(0, 5) / 10, 393);
        due("no seventh", x.verb(6, 0), BAD);
    }

    private static void nounsTold() {
        CHECKS.sentence("term 1: VERBS S (1 to 63, as bits");
        sound("n1;", "n63;");
        faultAt(0, "n0;", "n00;", "n64;", "n99;");
        CHECKS.sentence("term 1: of a NOUN: there or not");
        FamineOfVerbs x = Checks.laid("n63;v0,0;n32;t0;n1;v0,0;");
        due("verbs told behind it", x.noun(0), 3);
        due("a verb that is not there", x.noun(1), 0);
        due("the first verb", x.noun(2), 1);
        CHECKS.sentence("term 1: NOUNS: 8 at most, 0, 1, ..");
        String eight = "n1;".repeat(7) + "n2;";
        sound(eight);
        faultAt(24, eight + "n1;", eight + "n1;n1;");
        FamineOfVerbs full = Checks.laid(eight + "v0,0;v0,0;t0;");
        due("the eighth", full.noun(7), 2);
        due("no ninth", full.noun(8), BAD);
    }

    private static void villagesTold() {
        CHECKS.sentence("term 1: NOUNS S (0 to 63 for the first six, as bits");
        sound("t0;", "t63;");
        faultAt(0, "t64;", "t65;", "t99;");
        CHECKS.sentence("term 1: of a VILLAGE: there or not");
        FamineOfVerbs x = Checks.laid("t63;t0;t32;v0,0;n1;n1;n1;");
        due("three told behind it", x.village(0, 0), 7);
        due("none", x.village(1, 0), 0);
        due("one that is not there", x.village(2, 0), 0);
        CHECKS.sentence("term 1: the others all have");
        due("the sixth is not one of them", Checks.laid("t0;v0,0;" + "n1;".repeat(6)).village(0, 0), 0);
        due("the seventh", Checks.laid("t0;v0,0;" + "n1;".repeat(7)).village(0, 0), 64);
        due("the eighth", Checks.laid("t0;v0,0;" + "n1;".repeat(8)).village(0, 0), 192);
        due("all eight", Checks.laid("t63;v0,0;" + "n1;".repeat(8)).village(0, 0), 255);
        CHECKS.sentence("term 1: VILLAGES: 4 at most, 0, 1, ..");
        String four = "t1;t1;t1;t2;";
        sound(four);
        faultAt(12, four + "t1;", four + "t1;t1;");
        FamineOfVerbs full = Checks.laid(four + "v0,0;n1;n1;s3,0,4;");
        due("the fourth", full.village(3, 0) * 10 + full.stock(3, 0), 24);
        due("no fifth", full.village(4, 0), BAD);
    }

    private static void stocksTold() {
        CHECKS.sentence("term 1: N (0 to 30) of VERB V");
        sound(AHEAD + "s0,0,0;", AHEAD + "s0,0,30;");
        faultAt(8, AHEAD + "s0,0,31;", AHEAD + "s0,0,40;", AHEAD + "s0,0,99;");
        due("thirty", Checks.laid(AHEAD + "s0,0,30;").stock(0, 0), 30);
        due("none is told", Checks.laid(AHEAD).stock(0, 0), 0);
        CHECKS.sentence("term 1: of a stock: both told ahead");
        faultAt(0, "s0,0,1;v0,0;t0;");
        faultAt(5, "v0,0;s0,0,1;t0;");
        faultAt(3, "t0;s0,0,1;v0,0;");
        faultAt(8, AHEAD + "s1,0,1;t0;", AHEAD + "s0,1,1;v0,0;", AHEAD + "s1,1,1;", AHEAD + "s99,0,0;", AHEAD + "s0,99,0;");
        sound(AHEAD + "t0;v0,0;s1,1,1;");
        CHECKS.sentence("term 1: the last one of each two");
        FamineOfVerbs x = Checks.laid("v0,0;v0,0;t0;t0;s0,0,30;s0,1,5;s1,0,6;s0,0,2;s0,1,0;s1,0,7;s1,0,6;");
        due("fewer", x.stock(0, 0), 2);
        due("none", x.stock(0, 1), 0);
        due("as at first again", x.stock(1, 0), 6);
        due("not told", x.stock(1, 1), 0);
    }

    private static void worksTold() {
        CHECKS.sentence("term 1: a WORK worth W (1 to 9) each season");
        sound(AHEAD + "w0,0,1;", AHEAD + "w0,0,9;");
        faultAt(8, AHEAD + "w0,0,0;", AHEAD + "w0,0,10;", AHEAD + "w0,0,99;");
        CHECKS.sentence("term 1: of a WORK: both told ahead");
        faultAt(0, "w0,0,1;v0,0;t0;");
        faultAt(5, "v0,0;w0,0,1;t0;");
        faultAt(3, "t0;w0,0,1;v0,0;");
        faultAt(8, AHEAD + "w1,0,1;t0;", AHEAD + "w0,1,1;v0,0;", AHEAD + "w99,0,1;", AHEAD + "w0,99,1;");
        sound(AHEAD + "t0;v0,0;w1,1,1;");
        CHECKS.sentence("term 1: WORKS: 8 at most, 0, 1, ..");
        String eight = AHEAD + "w0,0,1;".repeat(7) + "w0,0,9;";
        sound(eight);
        faultAt(64, eight + "w0,0,1;", eight + "w0,0,1;w0,0,1;");
        due("the eighth", Checks.laid(eight).work(7, 2), 9);
        due("no ninth", Checks.laid(eight).work(8, 2), BAD);
    }

    private static void firstFault() {
        CHECKS.sentence("term 1: FAULT: the place of the first letter of the first ITEM that is not so");
        fault("x", 0);
        fault("v0,0;n0;n0;", 5);
        fault("v0,0;t0;n1;n0;v9,9;", 11);
        fault("v0,0;t0;s0,0,31;s0,0,31;", 8);
        fault("v0,0;t0;s0,0,1", 8);
        fault("v10,10;", 0);
    }

    private static void whatIsLaid() {
        CHECKS.sentence("term 1: LAID is a TEXT without FAULT, of a VERB and a VILLAGE at least (NO else");
        due("the least", Checks.written("v0,0;t0;").lay(), 1);
        due("village ahead", Checks.written("t0;v0,0;").lay(), 1);
        due("empty", new FamineOfVerbs().lay(), NO);
        due("no village", Checks.written("v0,0;n1;").lay(), NO);
        due("no verb", Checks.written("t0;n1;").lay(), NO);
        due("a fault at the end", Checks.written("v0,0;t0;x").lay(), NO);
        due("a fault at first", Checks.written("xv0,0;t0;").lay(), NO);
        due("unfinished", Checks.written("v0,0;t0").lay(), NO);
        CHECKS.sentence("term 1: at first v0,2;v1,0;v2,3;v3,1;n3;n6;n13;n9;n4;t7;t25;s0,0,4;..");
        FamineOfVerbs first = new FamineOfVerbs();
        FamineOfVerbs told = Checks.laid("v0,2;v1,0;v2,3;v3,1;n3;n6;n13;n9;n4;t7;t25;s0,0,4;s0,2,2;s1,1,3;s1,3,5;s1,0,1;"
                + "w0,0,4;w0,2,6;w1,3,5;w0,1,2;w1,0,7;");
        told.wipe();
        CHECKS.due("the land at first", landOf(first), landOf(told));
        CHECKS.due("all as at first", Checks.stateOf(first), Checks.stateOf(told));
    }

    private static String landOf(FamineOfVerbs x) {
        StringBuilder seen = new StringBuilder();
        for (int i = 0; i < 8; i++) {
            seen.append(x.verb(i, 0)).append(' ').append(x.verb(i, 1)).append(' ').append(x.noun(i)).append(' ')
                    .append(x.village(i, 0)).append(' ').append(x.village(i, 2)).append(' ')
                    .append(x.work(i, 0)).append(' ').append(x.work(i, 1)).append(' ').append(x.work(i, 2)).append(';');
        }
        return seen.toString();
    }

    private static void newAndWritten() {
        CHECKS.sentence("promise 1: As told; THE TEXT is empty");
        FamineOfVerbs x = new FamineOfVerbs();
        due("letters", x.count(9), 0);
        due("wiped", x.wipe(), 0);
        due("first letter", x.write('v'), 1);
        for (int what = 6; what <= 8; what++) {
            due("count " + what, x.count(what), 0);
        }
        CHECKS.sentence("promise 2: A letter (32 to 126, as in ASCII) comes behind THE TEXT: how long it is. BAD");
        for (int letter = 0; letter < 160; letter++) {
            int before = x.count(9);
            boolean good = letter >= 32 && letter <= 126;
            due("write " + letter, x.write(letter), good ? before + 1 : BAD);
            due("letters behind " + letter, x.count(9), good ? before + 1 : before);
        }
        CHECKS.bad("write", x.write(-1), x.write(-97), x.write(256 + 118), x.write(65536 + 118), x.write(Checks.LEAST),
                x.write(Checks.MOST));
    }

    private static void fullAndWiped() {
        CHECKS.sentence("promise 2: FULL");
        FamineOfVerbs x = Checks.written("v0,0;t0;s0,0,7;" + " ".repeat(184));
        due("the last place", x.write('!'), 200);
        due("none is left", x.write('!'), FULL);
        due("BAD is first", x.write(31), BAD);
        due("still 200", x.count(9), 200);
        CHECKS.sentence("promise 3: THE TEXT is empty: how long it was");
        due("wipe of 200", x.wipe(), 200);
        due("wipe of none", x.wipe(), 0);
        due("no fault in it", x.fault(), NONE);
        due("write again", x.write('v'), 1);
        due("wipe of one", x.wipe(), 1);
        due("the land stays", x.count(0), 4);
    }

    private static void faultAndLay() {
        CHECKS.sentence("promise 4: FAULT. NONE");
        fault("", NONE);
        fault("t0;", NONE);
        fault("v0,0;", NONE);
        CHECKS.sentence("promise 5: LAID: how many VILLAGES");
        for (int many = 1; many <= 4; many++) {
            due("lay of " + many, Checks.written("v0,0;" + "t0;".repeat(many)).lay(), many);
        }
        CHECKS.sentence("promise 5: SEASON 0, nothing sown, HEARD, UNDONE, KEPT; THE TEXT stays");
        FamineOfVerbs x = Checks.laid("v0,1;t0;t0;s0,0,9;w0,0,3;");
        x.pass(10);
        x.undo();
        x.pass(2);
        x.sow(0, 0);
        x.hear(0, 1, false);
        x.keep();
        x.keep();
        due("again", x.lay(), 2);
        CHECKS.due("as at first", Checks.stateOf(x), "1 0 2 1 0 9 0 0 0 25 | -4 9 | -4 0 / 0 0 ");
        due("not undone", x.undo(), NO);
        due("not kept", x.back(), NO);
        due("not heard", x.hoard(0, 0, 0), 31);
        x.pass(10);
        CHECKS.due("done and forgotten", Checks.standingOf(x), "| -4 0 | -4 0 / 9 1 ");
        due("a third time", x.lay(), 2);
        CHECKS.due("neither done nor forgotten", Checks.standingOf(x), "| -4 9 | -4 0 / 0 0 ");
    }

    private static void refusedLay() {
        CHECKS.sentence("promise 5: NO; nothing changes then");
        FamineOfVerbs x = Checks.laid("v0,1;t1;s0,0,9;n1;w0,0,3;");
        x.pass(3);
        x.keep();
        x.hear(0, 2, false);
        String land = landOf(x);
        String before = Checks.stateOf(x);
        x.wipe();
        for (char letter : "v3,9;v1,1;n2;s".toCharArray()) {
            due("a letter", x.write(letter) > 0 ? 1 : 0, 1);
            due("refused", x.lay(), NO);
        }
        CHECKS.due("the land stays", landOf(x), land);
        due("the text stays", x.count(9), 14);
        CHECKS.due("all else stays", Checks.stateOf(x).replace(" 14 |", " 25 |"), before);
        due("heard stays", x.hoard(0, 0, 0), 0);
        due("undo stays", x.undo(), 0);
        due("kept stays", x.back(), 0);
        due("season 3", x.count(4), 3);
    }

    /** Each LAND takes the place of the last one whole: fewer, none, others. */
    private static void landAfterLand() {
        CHECKS.sentence("promise 5: LAID (one land behind the other)");
        FamineOfVerbs x = Checks.laid("v0,0;v1,3;t63;t63;t63;n1;n2;s0,1,9;s2,0,4;w0,0,9;w0,1,2;w2,0,5;");
        due("two said", x.village(2, 2), 3);
        String[] texts = {"v2,2;t63;n2;", "v0,0;v0,0;t63;t0;t0;n3;", "v0,0;v0,0;v0,0;t0;t63;t1;n4;n3;n6;w2,0,1;"};
        String[] states = {"1 1 1 0 0 0 0 0 0 12 | -4 0 ", "2 1 3 0 0 0 0 0 0 23 | -4 0 0 | -4 0 0 | -4 0 0 ",
            "3 3 3 1 0 0 0 0 0 41 | -4 0 0 0 | -4 0 0 0 | -4 0 0 0 / 0 0 "};
        int[][] said = {{0}, {0, 0, 0}, {0, 6, 4}};
        for (int i = 0; i < texts.length; i++) {
            x.pass(1);
            x.wipe();
            Checks.write(x, texts[i]);
            due("lay " + i, x.lay(), said[i].length);
            CHECKS.due("state of " + i, Checks.stateOf(x), states[i]);
            for (int t = 0; t < said[i].length; t++) {
                due("said in " + t + " of " + i, x.village(t, 2), said[i][t]);
            }
        }
    }

    private static void told() {
        FamineOfVerbs x = Checks.laid("v1,9;v3,0;n1;t1;t0;t0;t0;s0,0,30;s3,0,30;s1,0,30;s2,0,30;w3,1,9;");
        CHECKS.sentence("promise 6: KIND (what = 0), CROP (1), how many there are in all VILLAGES (2). BAD");
        due("four times 30", x.verb(0, 2), 120);
        due("none", x.verb(1, 2), 0);
        CHECKS.bad("verb", x.verb(2, 0), x.verb(-1, 0), x.verb(0, 3), x.verb(0, -1), x.verb(2, 3));
        CHECKS.sentence("promise 7: VERBS that a NOUN brings to mind, as bits (of those there are). BAD");
        due("the noun", x.noun(0), 1);
        CHECKS.bad("noun", x.noun(1), x.noun(-1), x.noun(8), new FamineOfVerbs().noun(5));
        due("no noun at all", Checks.laid("v0,0;t0;").noun(0), BAD);
        CHECKS.sentence("promise 8: the VERB that is sown (1; NONE)");
        due("nothing", x.village(0, 1), NONE);
        x.sow(0, 0);
        due("verb 0", x.village(0, 1), 0);
        x.sow(3, 1);
        due("verb 1, from small ones", x.village(3, 1), 1);
        CHECKS.sentence("promise 8: BAD");
        CHECKS.bad("village", x.village(4, 0), x.village(-1, 1), x.village(0, 3), x.village(0, -1));
        CHECKS.sentence("promise 9: How many of a VERB a VILLAGE has. BAD");
        due("all but one", x.stock(0, 0), 29);
        CHECKS.bad("stock", x.stock(4, 0), x.stock(0, 2), x.stock(-1, 0), x.stock(0, -1));
        CHECKS.sentence("promise 10: VILLAGE (what = 0), VERB (1), worth (2), how often DONE (3), FORGOTTEN (4). BAD");
        due("village", x.work(0, 0), 3);
        due("verb", x.work(0, 1), 1);
        due("worth", x.work(0, 2), 9);
        due("done", x.work(0, 3), 0);
        due("forgotten", x.work(0, 4), 0);
        CHECKS.bad("work", x.work(1, 0), x.work(-1, 0), x.work(0, 5), x.work(0, -1));
        due("no work at all", Checks.laid("v0,0;t0;").work(0, 0), BAD);
    }

    public static void main(String[] args) {
        textOfLetters();
        itemsOneBehindTheOther();
        oneOrTwoFigures();
        partedAndEnded();
        verbsTold();
        nounsTold();
        villagesTold();
        stocksTold();
        worksTold();
        firstFault();
        whatIsLaid();
        newAndWritten();
        fullAndWiped();
        faultAndLay();
        refusedLay();
        landAfterLand();
        told();
        CHECKS.end();
    }
}
