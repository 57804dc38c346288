/** Promises 20 to 22: READINGS, SAY, TELLS. */
public final class SaidTest {
    private static final Checks CHECKS = new Checks();
    private static final int LEAST = Checks.LEAST, MOST = Checks.MOST;

    private static void due(String call, int got, int want) {
        CHECKS.due(call, got, want);
    }

    private static void readings() {
        FamineOfVerbs x = Checks.laid("v0,0;v0,0;v0,0;t0;n7;n6;n61;n48;");
        due("one noun", x.readings(1), 7);
        due("of those there are", x.readings(4), 5);
        due("none of those there are", x.readings(8), 0);
        due("two", x.readings(3), 6);
        due("three", x.readings(7), 4);
        due("all", x.readings(15), 0);
        CHECKS.bad("readings", x.readings(0), x.readings(16), x.readings(17), x.readings(-1), x.readings(LEAST),
                x.readings(MOST));
        FamineOfVerbs full = Checks.laid("v0,0;t0;n1;n1;n1;n1;n1;n1;n1;n1;");
        due("eight nouns", full.readings(255), 1);
        due("nine nouns", full.readings(256), Checks.BAD);
    }

    private static void say() {
        FamineOfVerbs x = Checks.laid("v0,0;v0,0;v0,0;v0,0;t63;t12;t0;n7;n11;n13;n14;n3;n5;n9;n8;");
        due("two nouns, 2 and 4", x.say(0, 0), 20);
        due("verb 3 by one noun of all", x.say(0, 3), 128);
        due("everywhere", x.say(2, 3), 128);
        due("verb 0 in 2", x.say(2, 0), Checks.NONE);
        due("verb 2 in 1", x.say(1, 2), Checks.NONE);
        due("verb 0 in 1", x.say(1, 0), Checks.NONE);
        due("verb 1 by 3 and 4", x.say(0, 1), 24);
        due("verb 2 by 3 and 5", x.say(0, 2), 40);
        CHECKS.bad("say", x.say(3, 0), x.say(-1, 0), x.say(0, 4), x.say(0, -1), x.say(LEAST, 0), x.say(0, MOST));
    }

    private static void fewestNotLowest() {
        FamineOfVerbs x = Checks.laid("v0,0;v0,0;v0,0;t15;t7;t3;n3;n5;n6;n1;");
        due("one noun, though two are lower", x.say(0, 0), 8);
        due("two nouns", x.say(1, 0), 3);
        due("lowest of two", x.say(1, 1), 5);
        due("no row of 2", x.say(2, 2), Checks.NONE);
        due("said in 2", x.village(2, 2), 1);
        FamineOfVerbs again = Checks.laid("v0,0;v0,0;t63;n3;n1;n1;n3;");
        due("lowest of one", again.say(0, 0), 2);
        due("not understood", again.say(0, 1), Checks.NONE);
        due("no nouns", Checks.laid("v0,0;t63;").say(0, 0), Checks.NONE);
        FamineOfVerbs three = Checks.laid("v0,0;v0,0;v0,0;v0,0;t63;n7;n11;n13;");
        due("three of three", three.say(0, 0), 7);
        due("alone in none", three.say(0, 1), Checks.NONE);
    }

    private static void tells() {
        FamineOfVerbs x = Checks.laid("v0,0;v0,0;v0,0;v0,0;t0;n15;n7;n3;n12;n5;n48;");
        due("by which fewest are left", x.tells(1, 0), 2);
        due("two of them", x.tells(1, 1), 2);
        due("one, of several the lowest", x.tells(2, 0), 3);
        due("one is left", x.tells(2, 1), 1);
        due("not by none", x.tells(4, 0), 4);
        due("how many by 4", x.tells(4, 1), 1);
        due("behind three", x.tells(7, 0), 4);
        due("behind 3 and 4", x.tells(24, 0), 0);
        due("one by 0", x.tells(24, 1), 1);
        due("no reading at first", x.tells(32, 0), Checks.NONE);
        due("how many of none", x.tells(32, 1), Checks.NONE);
        due("none would be left", x.tells(31, 0), Checks.NONE);
        due("no noun is left", x.tells(63, 1), Checks.NONE);
        due("BAD ahead of NONE", x.tells(63, 2), Checks.BAD);
        CHECKS.bad("tells", x.tells(0, 0), x.tells(64, 0), x.tells(1, 2), x.tells(1, -1), x.tells(-1, 0),
                x.tells(LEAST, 0), x.tells(MOST, 0), x.tells(1, LEAST), x.tells(1, MOST), x.tells(65, 1));
    }

    public static void main(String[] args) {
        readings();
        say();
        fewestNotLowest();
        tells();
        CHECKS.end();
    }
}
