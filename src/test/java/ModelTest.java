import java.util.Map;
import java.util.TreeMap;

/** Long runs of drawn calls: the class and the model answer alike. */
public final class ModelTest {
    private static final Checks CHECKS = new Checks();
    private static final Map<String, int[]> SEEN = new TreeMap<>();
    private static final int CALLS = 512;
    private static long seed = 20261119L;

    private static int draw(int below) {
        seed = seed * 6364136223846793005L + 1442695040888963407L;
        return (int) ((seed >>> 33) % below);
    }

    private static int between(int low, int high) {
        return low + draw(high - low + 1);
    }

    /** Mostly a number that is told, now and then one that is not. */
    private static int about(int low, int high) {
        return switch (draw(40)) {
            case 0 -> low - 1;
            case 1 -> high + 1;
            case 2 -> Integer.MIN_VALUE;
            case 3 -> Integer.MAX_VALUE;
            case 4, 5 -> low;
            case 6, 7 -> high;
            default -> high < low ? low : between(low, high);
        };
    }

    /** Mostly a village other than t. */
    private static int other(Model y, int t) {
        int villages = y.count(2);
        return draw(8) == 0 || villages < 2 || t < 0 || t >= villages ? about(0, villages - 1) : (t + between(1, villages - 1)) % villages;
    }

    /** Mostly a verb that t has. */
    private static int hadBy(Model y, int t) {
        int v = about(0, y.count(0) - 1);
        for (int tries = 0; tries < 8 && y.stock(t, v) == 0; tries++) {
            v = draw(y.count(0));
        }
        return v;
    }

    /** Now and then all that t has, or as many as u can take, or one more. */
    private static int gift(Model y, int t, int u, int v, int most) {
        return switch (draw(6)) {
            case 0 -> y.stock(t, v) + draw(2);
            case 1 -> 60 - y.stock(u, v) + draw(2);
            case 2 -> about(1, most);
            default -> between(1, 9);
        };
    }

    private static String items(int verbs, int nouns, int villages) {
        StringBuilder text = new StringBuilder();
        for (int i = 0; i < verbs; i++) {
            text.append('v').append(between(0, 3)).append(',').append(between(0, 9)).append(';');
        }
        for (int i = 0; i < nouns; i++) {
            text.append('n').append(draw(3) == 0 ? between(1, 63) : between(1, 63) & between(1, 63) | 1 << draw(6)).append(';');
        }
        for (int i = 0; i < villages; i++) {
            text.append('t').append(draw(2) == 0 ? between(0, 63) : 1 << draw(6)).append(';');
        }
        return text.toString();
    }

    private static String drawnText() {
        int verbs = between(1, 6);
        int villages = between(1, 4);
        StringBuilder text = new StringBuilder(items(verbs, draw(9), villages));
        int stocks = draw(14);
        for (int i = 0; i < stocks && text.length() < 190; i++) {
            text.append('s').append(draw(villages)).append(',').append(draw(verbs)).append(',')
                    .append(draw(3) == 0 ? between(20, 30) : between(0, 12)).append(';');
        }
        int works = draw(9);
        for (int i = 0; i < works && text.length() < 192; i++) {
            text.append('w').append(draw(villages)).append(',').append(draw(verbs)).append(',').append(between(1, 9)).append(';');
        }
        if (draw(6) == 0) {
            String odd = "vntsw0123456789,; x";
            text.setCharAt(draw(text.length()), odd.charAt(draw(odd.length())));
        }
        return text.length() <= 200 ? text.toString() : text.substring(0, 200);
    }

    private static void due(String call, int got, int want) {
        CHECKS.due(call, got, want);
        int[] kinds = SEEN.computeIfAbsent(call.replaceAll("\\(.*", ""), name -> new int[5]);
        kinds[want >= 0 ? 0 : -want]++;
    }

    private static int writeBoth(FamineOfVerbs x, Model y, String text) {
        due("wipe()", x.wipe(), y.wipe());
        for (char letter : text.toCharArray()) {
            due("write", x.write(letter), y.write(letter));
        }
        due("fault() of " + text, x.fault(), y.fault());
        due("lay() of " + text, x.lay(), y.lay());
        return text.length() + 3;
    }

    private static void change(FamineOfVerbs x, Model y) {
        int t = about(0, y.count(2) - 1);
        int u = other(y, t);
        int v = hadBy(y, t);
        int n = gift(y, t, u, v, 60);
        switch (draw(11)) {
            case 0, 1 -> {
                int seasons = draw(3) == 0 ? about(1, 10) : 1;
                due("pass(" + seasons + ")", x.pass(seasons), y.pass(seasons));
            }
            case 2, 3 -> due("give(" + t + "," + u + "," + v + "," + n + ")", x.give(t, u, v, n), y.give(t, u, v, n));
            case 4, 5, 6 -> due("sow(" + t + "," + v + ")", x.sow(t, v), y.sow(t, v));
            case 7 -> due("undo()", x.undo(), y.undo());
            case 8 -> due("keep()", x.keep(), y.keep());
            case 9 -> {
                if (draw(2) == 0) {
                    due("back()", x.back(), y.back());
                }
            }
            default -> hearOrForget(x, y);
        }
    }

    private static void hearOrForget(FamineOfVerbs x, Model y) {
        if (draw(6) == 0) {
            due("forget()", x.forget(), y.forget());
        } else {
            int w = about(0, y.count(3) - 1);
            int season = about(1, 9);
            boolean done = draw(2) == 0;
            due("hear(" + w + "," + season + "," + done + ")", x.hear(w, season, done), y.hear(w, season, done));
        }
    }

    private static void tell(FamineOfVerbs x, Model y) {
        int t = about(0, y.count(2) - 1);
        int v = about(0, y.count(0) - 1);
        int w = about(0, y.count(3) - 1);
        int two = about(0, 1);
        int three = about(0, 2);
        int five = about(0, 4);
        int ten = about(0, 9);
        int n = about(0, y.count(1) - 1);
        switch (draw(8)) {
            case 0 -> due("verb(" + v + "," + three + ")", x.verb(v, three), y.verb(v, three));
            case 1 -> due("noun(" + n + ")", x.noun(n), y.noun(n));
            case 2 -> due("village(" + t + "," + three + ")", x.village(t, three), y.village(t, three));
            case 3, 4 -> due("stock(" + t + "," + v + ")", x.stock(t, v), y.stock(t, v));
            case 5 -> due("work(" + w + "," + five + ")", x.work(w, five), y.work(w, five));
            case 6 -> due("bred(" + t + ")", x.bred(t), y.bred(t));
            default -> due("count(" + ten + ")", x.count(ten), y.count(ten));
        }
        if (draw(40) == 0) {
            int letter = about(32, 126);
            due("write(" + letter + ")", x.write(letter), y.write(letter));
        }
        if (draw(40) == 0) {
            due("lay()", x.lay(), y.lay());
        }
        due("silent(" + two + ")", x.silent(two), y.silent(two));
    }

    private static void foresee(FamineOfVerbs x, Model y) {
        int t = about(0, y.count(2) - 1);
        int u = other(y, t);
        int v = hadBy(y, t);
        int n = about(1, 9);
        int load = gift(y, t, u, v, 9);
        int two = about(0, 1);
        int three = about(0, 2);
        int far = about(0, 40);
        int z = about(0, 9999);
        int decade = about(1, 40);
        int set = about(1, (1 << y.count(1)) - 1);
        int of = about(-1, y.count(2) - 1);
        String tv = t + "," + v;
        switch (draw(10)) {
            case 0 -> due("behind(" + far + "," + tv + "," + three + ")", x.behind(far, t, v, three), y.behind(far, t, v, three));
            case 1 -> due("lasts(" + t + ")", x.lasts(t), y.lasts(t));
            case 2 -> due("sent()", x.sent(), y.sent());
            case 3 -> due("share(" + v + "," + n + "," + of + ")", x.share(v, n, of), y.share(v, n, of));
            case 4 -> due("readings(" + set + ")", x.readings(set), y.readings(set));
            case 5 -> due("say(" + tv + ")", x.say(t, v), y.say(t, v));
            case 6 -> due("tells(" + set + "," + two + ")", x.tells(set, two), y.tells(set, two));
            case 7 -> due("hoard(" + tv + "," + two + ")", x.hoard(t, v, two), y.hoard(t, v, two));
            case 8 -> due("caravan(" + t + "," + u + "," + v + "," + load + ")", x.caravan(t, u, v, load), y.caravan(t, u, v, load));
            default -> due("decade(" + z + "," + decade + "," + two + ")", x.decade(z, decade, two), y.decade(z, decade, two));
        }
    }

    private static void runOne() {
        FamineOfVerbs x = new FamineOfVerbs();
        Model y = new Model();
        int calls = draw(10) == 0 ? 0 : writeBoth(x, y, drawnText());
        while (calls < CALLS - 4) {
            int kind = draw(3);
            if (kind == 0) {
                change(x, y);
            } else if (kind == 1) {
                tell(x, y);
            } else {
                foresee(x, y);
            }
            calls += kind == 1 ? 4 : 1;
        }
    }

    public static void main(String[] args) {
        int runs = args.length > 0 ? Integer.parseInt(args[0]) : 150;
        seed += args.length > 1 ? Long.parseLong(args[1]) : 0;
        for (int i = 0; i < runs; i++) {
            runOne();
        }
        if (args.length > 0) {
            SEEN.forEach((name, kinds) -> System.out.println(name + " answers, BAD, NO, FULL, NONE: " + java.util.Arrays.toString(kinds)));
        }
        CHECKS.end();
    }
}
