/** The document's last sentences of its terms: what is BAD, what comes first, and that nothing changes then. */
public final class RefusalTest {
    private static final Checks CHECKS = new Checks();
    private static final int BAD = Checks.BAD, NO = Checks.NO, FULL = Checks.FULL, NONE = Checks.NONE;
    private static final int VERBS = 2, NOUNS = 3, VILLAGES = 3, WORKS = 3;
    private static final String TEXT = "v0,2;v1,3;t1;t0;t0;n1;n3;n2;s0,0,30;s1,0,30;s2,0,30;s1,1,5;w0,0,3;w0,1,4;w1,1,5;";

    private interface Call {
        int of(FamineOfVerbs x, int[] numbers);
    }

    private interface Act {
        int on(FamineOfVerbs x);
    }

    private static FamineOfVerbs fresh() {
        return Checks.laid(TEXT);
    }

    /** Much is NO, NONE and FULL here. */
    private static FamineOfVerbs crammed() {
        FamineOfVerbs x = Checks.laid("v0,0;v0,0;t0;t0;t0;n4;n4;n4;s0,0,30;s0,1,1;s1,1,1;s2,1,1;s1,0,30;w0,0,3;w0,1,4;w1,1,5;");
        x.give(1, 0, 0, 30);
        for (int t = 0; t < VILLAGES; t++) {
            x.sow(t, 1);
        }
        for (int i = 0; i < 6; i++) {
            x.hear(0, 1, i % 2 == 0);
        }
        x.keep();
        x.keep();
        Checks.write(x, " ".repeat(200));
        return x;
    }

    /** Each number of a call is one of those at and beyond the ends of what is told, with each of the others. */
    private static void ends(String name, Call call, boolean apart, int[]... ranges) {
        CHECKS.sentence("BAD: a number is none that is told: " + name);
        int[] numbers = new int[ranges.length];
        int cases = (int) Math.pow(6, ranges.length);
        for (int i = 0; i < cases; i++) {
            boolean bad = false;
            StringBuilder label = new StringBuilder(name);
            for (int k = 0, rest = i; k < ranges.length; k++, rest /= 6) {
                int[] range = ranges[k];
                int[] ends = {range[0], range[1], range[0] - 1, range[1] + 1, Checks.LEAST, Checks.MOST};
                numbers[k] = ends[rest % 6];
                bad |= rest % 6 >= 2;
                label.append(' ').append(numbers[k]);
            }
            bad |= apart && numbers[0] == numbers[1];
            CHECKS.due(label + " is BAD", call.of(fresh(), numbers) == BAD, bad);
            CHECKS.due(label + " is BAD, crammed", call.of(crammed(), numbers) == BAD, bad);
        }
    }

    private static int[] range(int least, int most) {
        return new int[] {least, most};
    }

    private static void endsOfLands() {
        int[] v = range(0, VERBS - 1);
        int[] t = range(0, VILLAGES - 1);
        ends("write", (x, a) -> x.write(a[0]), false, range(32, 126));
        ends("verb", (x, a) -> x.verb(a[0], a[1]), false, v, range(0, 2));
        ends("noun", (x, a) -> x.noun(a[0]), false, range(0, NOUNS - 1));
        ends("village", (x, a) -> x.village(a[0], a[1]), false, t, range(0, 2));
        ends("stock", (x, a) -> x.stock(a[0], a[1]), false, t, v);
        ends("work", (x, a) -> x.work(a[0], a[1]), false, range(0, WORKS - 1), range(0, 4));
        ends("pass", (x, a) -> x.pass(a[0]), false, range(1, 10));
        ends("give", (x, a) -> x.give(a[0], a[1], a[2], a[3]), true, t, t, v, range(1, 60));
        ends("sow", (x, a) -> x.sow(a[0], a[1]), false, t, v);
        ends("count", (x, a) -> x.count(a[0]), false, range(0, 9));
    }

    private static void endsOfWhatComes() {
        int[] v = range(0, VERBS - 1);
        int[] t = range(0, VILLAGES - 1);
        int[] set = range(1, (1 << NOUNS) - 1);
        int[] w = range(0, WORKS - 1);
        ends("behind", (x, a) -> x.behind(a[0], a[1], a[2], a[3]), false, range(0, 40), t, v, range(0, 2));
        ends("silent", (x, a) -> x.silent(a[0]), false, range(0, 1));
        ends("lasts", (x, a) -> x.lasts(a[0]), false, t);
        ends("share", (x, a) -> x.share(a[0], a[1], a[2]), false, v, range(1, 9), range(-1, VILLAGES - 1));
        ends("readings", (x, a) -> x.readings(a[0]), false, set);
        ends("say", (x, a) -> x.say(a[0], a[1]), false, t, v);
        ends("tells", (x, a) -> x.tells(a[0], a[1]), false, set, range(0, 1));
        ends("bred", (x, a) -> x.bred(a[0]), false, t);
        ends("hear done", (x, a) -> x.hear(a[0], a[1], true), false, w, range(1, 9));
        ends("hear forgotten", (x, a) -> x.hear(a[0], a[1], false), false, w, range(1, 9));
        ends("hoard", (x, a) -> x.hoard(a[0], a[1], a[2]), false, t, v, range(0, 1));
        ends("caravan", (x, a) -> x.caravan(a[0], a[1], a[2], a[3]), true, t, t, v, range(1, 9));
        ends("decade", (x, a) -> x.decade(a[0], a[1], a[2]), false, range(0, 9999), range(1, 40), range(0, 1));
    }

    private static void firstOfSeveral() {
        CHECKS.sentence("Of several the first in this order, whatever the order at a call");
        FamineOfVerbs x = crammed();
        CHECKS.due("write: BAD, FULL", x.write(127), BAD);
        CHECKS.due("write: FULL", x.write(126), FULL);
        CHECKS.due("give: BAD, NO, FULL", x.give(1, 0, 0, 61), BAD);
        CHECKS.due("give, alike: BAD, NO, FULL", x.give(0, 0, 0, 60), BAD);
        CHECKS.due("give: NO, FULL", x.give(1, 0, 0, 60), NO);
        CHECKS.due("caravan: BAD, NO, FULL", x.caravan(1, 0, 0, 10), BAD);
        CHECKS.due("caravan: NO, FULL", x.caravan(1, 0, 0, 1), NO);
        CHECKS.due("sow: BAD, NO", x.sow(0, 2), BAD);
        CHECKS.due("sow: NO", x.sow(0, 0), NO);
        CHECKS.due("hear: BAD, FULL", x.hear(0, 10, true), BAD);
        CHECKS.due("hear: FULL", x.hear(0, 9, true), FULL);
        CHECKS.due("tells: BAD, NONE", x.tells(7, 2), BAD);
        CHECKS.due("tells: NONE", x.tells(7, 1), NONE);
        CHECKS.due("say: BAD, NONE", x.say(0, 2), BAD);
        CHECKS.due("say: NONE", x.say(0, 1), NONE);
        CHECKS.due("hoard: BAD, NONE", x.hoard(3, 0, 1), BAD);
        CHECKS.due("hoard: NONE", x.hoard(0, 0, 1), NONE);
        CHECKS.due("silent: BAD, NONE", Checks.laid("v0,0;t0;").silent(2), BAD);
        CHECKS.due("village: BAD, NONE", fresh().village(3, 1), BAD);
        CHECKS.due("keep: FULL", x.keep(), FULL);
    }

    /** A land in which much has been done; village 1 has 58 of verb 0. */
    private static FamineOfVerbs lived() {
        FamineOfVerbs x = fresh();
        x.pass(1);
        x.keep();
        x.sow(0, 0);
        x.pass(2);
        x.keep();
        x.sow(1, 1);
        x.give(2, 1, 0, 28);
        for (int i = 1; i <= 6; i++) {
            x.hear(i % WORKS, i, i % 2 == 0 || i > 3);
        }
        return x;
    }

    private static void tellNow(FamineOfVerbs x, StringBuilder told) {
        for (int what = 4; what <= 9; what++) {
            told.append(x.count(what)).append(' ');
        }
        told.append(Checks.standingOf(x)).append('\n');
    }

    /** All that an object can still tell: what is heard, written, undone, kept, laid. */
    private static String lifeOf(FamineOfVerbs x) {
        StringBuilder told = new StringBuilder();
        for (int t = 0; t < VILLAGES; t++) {
            told.append(x.hoard(t, 0, 0)).append(' ').append(x.hoard(t, 1, 1)).append(' ').append(x.village(t, 0)).append(' ');
        }
        told.append(x.fault()).append('\n');
        tellNow(x, told);
        for (int i = 0; i < 8 && x.undo() >= 0; i++) {
            tellNow(x, told);
        }
        for (int i = 0; i < 2 && x.back() >= 0; i++) {
            tellNow(x, told);
        }
        x.forget();
        told.append(x.write('!')).append(' ').append(x.lay());
        return told.toString();
    }

    private static void leaves(String call, int answer, FamineOfVerbs x, FamineOfVerbs twin, Act... acts) {
        for (Act act : acts) {
            CHECKS.due(call, act.on(x), answer);
        }
        CHECKS.due("all behind " + call, lifeOf(x), lifeOf(twin));
    }

    private static void leaves(String call, int answer, Act... acts) {
        leaves(call, answer, lived(), lived(), acts);
    }

    private static void nothingChanges() {
        CHECKS.sentence("nothing changes then");
        leaves("write", BAD, x -> x.write(31), x -> x.write(127));
        leaves("write", FULL, crammed(), crammed(), x -> x.write(32), x -> x.write(126));
        leaves("pass", BAD, x -> x.pass(0), x -> x.pass(11));
        leaves("give", BAD, x -> x.give(0, 0, 0, 1), x -> x.give(0, 1, 0, 61), x -> x.give(3, 1, 0, 1));
        leaves("give", NO, x -> x.give(2, 1, 0, 3), x -> x.give(2, 1, 1, 1));
        leaves("give", FULL, x -> x.give(0, 1, 0, 3));
        leaves("sow", BAD, x -> x.sow(3, 0), x -> x.sow(0, 2));
        leaves("sow", NO, x -> x.sow(1, 0), x -> x.sow(2, 1));
        leaves("undo", NO, fresh(), fresh(), x -> x.undo());
        leaves("hear", BAD, x -> x.hear(0, 0, true), x -> x.hear(3, 1, true));
        leaves("hear", FULL, x -> x.hear(0, 1, false), x -> x.hear(0, 9, true));
        leaves("keep", FULL, x -> x.keep());
        leaves("back", NO, fresh(), fresh(), x -> x.back());
        leaves("lay", NO, Checks.written("v0,0;x"), Checks.written("v0,0;x"), x -> x.lay());
        FamineOfVerbs faulty = lived();
        FamineOfVerbs twin = lived();
        faulty.write('x');
        twin.write('x');
        leaves("lay of a faulty text", NO, faulty, twin, x -> x.lay());
    }

    private static void lookingChangesNothing() {
        CHECKS.sentence("what only tells changes nothing");
        FamineOfVerbs x = lived();
        FamineOfVerbs twin = lived();
        int[] answers = {x.fault(), x.verb(0, 2), x.noun(0), x.village(0, 2), x.stock(0, 0), x.work(0, 3), x.behind(40, 0, 0, 1),
            x.silent(0), x.lasts(0), x.sent(), x.share(0, 9, 0), x.readings(1), x.say(0, 0), x.tells(1, 0), x.bred(0),
            x.hoard(0, 0, 0), x.caravan(0, 2, 0, 3), x.caravan(0, 1, 0, 3), x.decade(5, 40, 0), x.count(4)};
        CHECKS.due("answers", answers.length, 20);
        CHECKS.due("a caravan above 60", answers[17], FULL);
        CHECKS.due("all behind them", lifeOf(x), lifeOf(twin));
    }

    private static void manyCalls() {
        CHECKS.sentence("An object is used for at most 512 calls after it has been made");
        FamineOfVerbs x = new FamineOfVerbs();
        for (int i = 1; i <= 511; i++) {
            CHECKS.due("pass " + i, x.pass(10), 10 * i);
        }
        CHECKS.due("the last call", x.work(0, 3), 5110);
        FamineOfVerbs written = new FamineOfVerbs();
        for (int i = 1; i <= 511; i++) {
            CHECKS.due("write " + i, written.write(' '), i <= 200 ? i : FULL);
        }
        CHECKS.due("the last wipe", written.wipe(), 200);
    }

    public static void main(String[] args) {
        endsOfLands();
        endsOfWhatComes();
        firstOfSeveral();
        nothingChanges();
        lookingChangesNothing();
        manyCalls();
        CHECKS.end();
    }
}
