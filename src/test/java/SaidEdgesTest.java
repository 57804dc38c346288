/** What is said in terms 2 and 3, and promises 20 to 22: each sentence that names an edge. */
public final class SaidEdgesTest {
    private static final Checks CHECKS = new Checks();
    private static final int BAD = Checks.BAD, NONE = Checks.NONE;
    private static final String EIGHT = "n7;n11;n13;n14;n3;n5;n9;n8;";

    private static void due(String call, int got, int want) {
        CHECKS.due(call, got, want);
    }

    private static void readings() {
        CHECKS.sentence("term 2: READINGS of a row of NOUNS (a set of one or more): VERBS that each of them brings to mind");
        FamineOfVerbs x = Checks.laid("v0,0;v0,0;v0,0;v0,0;t0;" + EIGHT);
        due("one", x.readings(1), 7);
        due("the eighth", x.readings(128), 8);
        due("two", x.readings(3), 3);
        due("the first and the eighth", x.readings(129), 0);
        due("two and eight", x.readings(130), 8);
        due("all eight", x.readings(255), 0);
        due("of none, though all nouns are there", x.readings(0), BAD);
        CHECKS.sentence("promise 20: BAD (0, and any that there are not)");
        due("a ninth", x.readings(256), BAD);
        due("a ninth with the first", x.readings(257), BAD);
        FamineOfVerbs few = Checks.laid("v0,0;t63;n1;n1;");
        due("all of two", few.readings(3), 1);
        CHECKS.bad("readings", few.readings(4), few.readings(5), few.readings(7), few.readings(0), few.readings(-1),
                few.readings(Checks.LEAST), few.readings(Checks.MOST), few.readings(1 << 30), few.readings(Checks.LEAST + 1));
        FamineOfVerbs none = Checks.laid("v0,0;t63;");
        CHECKS.bad("no nouns", none.readings(0), none.readings(1), none.readings(-1));
        CHECKS.sentence("promise 20: as bits (of VERBS there are)");
        due("six told, one there", Checks.laid("v0,0;t0;n63;").readings(1), 1);
        due("none of those there", Checks.laid("v0,0;t0;n62;").readings(1), 0);
        due("all six", Checks.laid("v0,0;".repeat(6) + "t0;n63;").readings(1), 63);
    }

    /** What village 0 can say by NOUNS, whether it is done that way, and SAY of verb 0. */
    private static void said(String text, int bits, int say) {
        FamineOfVerbs x = Checks.laid(text + "w0,0,1;");
        due("said of " + text, x.village(0, 2), bits);
        due("say of " + text, x.say(0, 0), say);
        due("silent of " + text, x.silent(1), bits % 2 == 1 ? NONE : 1);
    }

    private static void understood() {
        CHECKS.sentence("term 2: It is UNDERSTOOD, if there is one READING alone");
        said("v0,0;v0,0;t1;n1;", 1, 1);
        said("v0,0;v0,0;t1;n2;", 2, NONE);
        said("v0,0;v0,0;t1;n3;", 0, NONE);
        said("v0,0;v0,0;t1;n4;", 0, NONE);
        said("v0,0;t1;n63;", 1, 1);
        said("v0,0;v0,0;v0,0;t3;n3;n5;", 1, 3);
        said("v0,0;v0,0;v0,0;t3;n3;n4;", 4, NONE);
        CHECKS.sentence("term 2: if some row of those that it has is UNDERSTOOD as it");
        said("v0,0;v0,0;t2;n1;n3;", 0, NONE);
        said("v0,0;v0,0;t3;n1;n3;", 1, 1);
        said("v0,0;v0,0;t0;n1;n1;n1;n1;n1;n1;", 0, NONE);
        said("v0,0;v0,0;t0;n1;n1;n1;n1;n1;n1;n1;", 1, 64);
        said("v0,0;v0,0;t0;n1;n1;n1;n1;n1;n1;n2;n1;", 3, 128);
        said("v0,0;t63;", 0, NONE);
        said("v0,0;t62;n1;", 0, NONE);
    }

    private static void say() {
        CHECKS.sentence("term 3: SAY: the smallest set that is UNDERSTOOD as it");
        FamineOfVerbs x = Checks.laid("v0,0;v0,0;v0,0;v0,0;t63;t12;t0;" + EIGHT);
        due("by two", x.say(0, 0), 16 + 4);
        due("by one", x.say(0, 3), 128);
        FamineOfVerbs three = Checks.laid("v0,0;v0,0;v0,0;v0,0;t63;n7;n11;n13;n14;");
        due("by three: 0", three.say(0, 0), 7);
        due("by three: 1", three.say(0, 1), 11);
        due("by three: 2", three.say(0, 2), 13);
        due("by three: 3", three.say(0, 3), 14);
        due("the first noun alone", Checks.laid("v0,0;v0,0;t63;n1;n3;n1;").say(0, 0), 1);
        due("by one, though two are lower", Checks.laid("v0,0;v0,0;v0,0;t63;n3;n5;n1;").say(0, 0), 4);
        CHECKS.sentence("term 3: of several the lowest, as bits");
        due("the first of three alike", Checks.laid("v0,0;v0,0;v0,0;v0,0;t63;n1;n1;n1;").say(0, 0), 1);
        due("3 of 3, 5, 6", Checks.laid("v0,0;v0,0;v0,0;v0,0;t63;n3;n5;n9;").say(0, 0), 3);
        due("5 of 5 and 6, 3 is not", Checks.laid("v0,0;v0,0;v0,0;t63;n3;n3;n5;").say(0, 0), 5);
        due("those it has", Checks.laid("v0,0;v0,0;v0,0;t62;n1;n3;n5;n1;").say(0, 0), 8);
        CHECKS.sentence("term 3: SAY: none. promise 21: NONE; BAD");
        due("not 2 in 1", x.say(1, 2), NONE);
        due("not 0 in 2", x.say(2, 0), NONE);
        due("3 in 2 by the eighth", x.say(2, 3), 128);
        due("no nouns", Checks.laid("v0,0;t63;").say(0, 0), NONE);
        CHECKS.bad("say", x.say(3, 0), x.say(-1, 0), x.say(0, 4), x.say(0, -1), x.say(3, 4), x.say(Checks.MOST, 0),
                x.say(0, Checks.LEAST));
    }

    private static void tells(String text, int set, int which, int many) {
        FamineOfVerbs x = Checks.laid(text);
        due("tells " + set + " of " + text, x.tells(set, 0), which);
        due("how many behind " + set + " of " + text, x.tells(set, 1), many);
    }

    private static void tells() {
        String verbs = "v0,0;v0,0;v0,0;v0,0;t0;";
        CHECKS.sentence("term 3: TELLS: the NOUN, not in it");
        tells(verbs + "n1;n15;", 1, 1, 1);
        tells(verbs + "n1;n15;", 2, 0, 1);
        tells(verbs + "n1;n3;n15;", 1, 1, 1);
        CHECKS.sentence("term 3: by which fewest READINGS are left");
        tells(verbs + "n15;n7;n3;n12;", 1, 2, 2);
        tells(verbs + "n15;n7;n3;n1;", 1, 3, 1);
        tells(verbs + "n15;n15;", 1, 1, 4);
        tells(verbs + "n15;n15;n15;n15;n15;n15;n15;n8;", 127, 7, 1);
        CHECKS.sentence("term 3: but one at least");
        tells(verbs + "n3;n12;n15;", 1, 2, 2);
        tells(verbs + "n3;n12;n4;", 1, NONE, NONE);
        tells(verbs + "n3;n12;n4;n2;", 1, 3, 1);
        CHECKS.sentence("term 3: of several the lowest; how many");
        tells(verbs + "n15;n8;n1;", 1, 1, 1);
        tells(verbs + "n15;n8;n1;", 2, 0, 1);
        tells(verbs + "n15;n7;n3;n12;n5;", 1, 2, 2);
        CHECKS.sentence("term 3: TELLS: none. promise 22: NONE; BAD");
        tells(verbs + "n15;", 1, NONE, NONE);
        tells(verbs + "n15;n15;", 3, NONE, NONE);
        tells(verbs + "n16;n15;", 1, NONE, NONE);
        tells(verbs + "n3;n12;n15;", 3, NONE, NONE);
        FamineOfVerbs x = Checks.laid(verbs + "n15;n7;");
        CHECKS.bad("tells", x.tells(0, 0), x.tells(0, 1), x.tells(4, 0), x.tells(5, 1), x.tells(-1, 0), x.tells(1, 2),
                x.tells(1, -1), x.tells(3, 2), x.tells(0, 2), x.tells(1 << 30, 0), x.tells(Checks.LEAST, 0),
                x.tells(Checks.MOST, 1), Checks.laid("v0,0;t0;").tells(0, 0), Checks.laid("v0,0;t0;").tells(1, 0));
    }

    public static void main(String[] args) {
        readings();
        understood();
        say();
        tells();
        CHECKS.end();
    }
}
