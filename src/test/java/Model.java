import java.math.BigInteger;
import java.util.ArrayDeque;
import java.util.ArrayList;
import java.util.Arrays;
import java.util.Deque;
import java.util.List;
import java.util.regex.Matcher;
import java.util.regex.Pattern;

/** The document once more, written apart from the class and with no care for its cost. */
final class Model {
    static final int BAD = -1, NO = -2, FULL = -3, NONE = -4;
    private static final Pattern ITEM = Pattern.compile("([vntsw])(\\d{1,2}(?:,\\d{1,2})*);");
    private static final String FIRST = "v0,2;v1,0;v2,3;v3,1;n3;n6;n13;n9;n4;t7;t25;"
            + "s0,0,4;s0,2,2;s1,1,3;s1,3,5;s1,0,1;w0,0,4;w0,2,6;w1,3,5;w0,1,2;w1,0,7;";

    /** A world at one time. */
    private static final class World {
        int season;
        int[][] stock = new int[4][6];
        Integer[] field = new Integer[4];
        int[][] told = new int[8][2];

        World twin() {
            World twin = new World();
            twin.season = season;
            for (int t = 0; t < 4; t++) {
                twin.stock[t] = stock[t].clone();
            }
            twin.field = field.clone();
            for (int w = 0; w < 8; w++) {
                twin.told[w] = told[w].clone();
            }
            return twin;
        }
    }

    private String text = "";
    private List<int[]> verbs, works;
    private List<Integer> nouns, villages;
    private World first, world;
    private final Deque<World> past = new ArrayDeque<>();
    private final Deque<World> kept = new ArrayDeque<>();
    private final List<int[]> heard = new ArrayList<>();

    Model() {
        text = FIRST;
        lay();
        text = "";
    }

    /** The place of the FAULT or NONE; with a land in the lists behind it, if there is none. */
    private int read(List<int[]> verbs, List<Integer> nouns, List<Integer> villages, World world, List<int[]> works) {
        int from = 0;
        while (from < text.length()) {
            Matcher m = ITEM.matcher(text).region(from, text.length());
            if (!m.lookingAt()) {
                return from;
            }
            int[] n = Arrays.stream(m.group(2).split(",")).mapToInt(Integer::parseInt).toArray();
            boolean pair = n.length == 3 && n[0] < villages.size() && n[1] < verbs.size();
            boolean good = switch (m.group(1)) {
                case "v" -> n.length == 2 && n[0] <= 3 && n[1] <= 9 && verbs.size() < 6 && verbs.add(n);
                case "n" -> n.length == 1 && n[0] >= 1 && n[0] <= 63 && nouns.size() < 8 && nouns.add(n[0]);
                case "t" -> n.length == 1 && n[0] <= 63 && villages.size() < 4 && villages.add(n[0]);
                case "s" -> pair && n[2] <= 30;
                default -> pair && n[2] >= 1 && n[2] <= 9 && works.size() < 8 && works.add(n);
            };
            if (!good) {
                return from;
            }
            if (m.group(1).equals("s")) {
                world.stock[n[0]][n[1]] = n[2];
            }
            from = m.end();
        }
        return NONE;
    }

    int write(int letter) {
        if (letter < 32 || letter > 126) {
            return BAD;
        }
        if (text.length() == 200) {
            return FULL;
        }
        text += (char) letter;
        return text.length();
    }

    int wipe() {
        int n = text.length();
        text = "";
        return n;
    }

    int fault() {
        return read(new ArrayList<>(), new ArrayList<>(), new ArrayList<>(), new World(), new ArrayList<>());
    }

    int lay() {
        List<int[]> someVerbs = new ArrayList<>();
        List<int[]> someWorks = new ArrayList<>();
        List<Integer> someNouns = new ArrayList<>();
        List<Integer> someVillages = new ArrayList<>();
        World some = new World();
        if (read(someVerbs, someNouns, someVillages, some, someWorks) != NONE || someVerbs.isEmpty() || someVillages.isEmpty()) {
            return NO;
        }
        verbs = someVerbs;
        works = someWorks;
        nouns = someNouns;
        villages = someVillages;
        first = some;
        world = some.twin();
        past.clear();
        kept.clear();
        heard.clear();
        return villages.size();
    }

    private boolean noVerb(int v) {
        return v < 0 || v >= verbs.size();
    }

    private boolean noVillage(int t) {
        return t < 0 || t >= villages.size();
    }

    private boolean noWork(int w) {
        return w < 0 || w >= works.size();
    }

    private int total(int v) {
        int sum = 0;
        for (int[] row : world.stock) {
            sum += row[v];
        }
        return sum;
    }

    int verb(int v, int what) {
        if (noVerb(v) || what < 0 || what > 2) {
            return BAD;
        }
        return what == 2 ? total(v) : verbs.get(v)[what];
    }

    int noun(int n) {
        return n < 0 || n >= nouns.size() ? BAD : nouns.get(n) % (1 << verbs.size());
    }

    private boolean hasNoun(int t, int n) {
        return n >= 6 || (villages.get(t) >> n) % 2 == 1;
    }

    int village(int t, int what) {
        if (noVillage(t) || what < 0 || what > 2) {
            return BAD;
        }
        if (what == 1) {
            return world.field[t] == null ? NONE : world.field[t];
        }
        int bits = 0;
        if (what == 0) {
            for (int n = 0; n < nouns.size(); n++) {
                bits += hasNoun(t, n) ? 1 << n : 0;
            }
        } else {
            for (int v = 0; v < verbs.size(); v++) {
                bits += say(t, v) == NONE ? 0 : 1 << v;
            }
        }
        return bits;
    }

    int stock(int t, int v) {
        return noVillage(t) || noVerb(v) ? BAD : world.stock[t][v];
    }

    int work(int w, int what) {
        if (noWork(w) || what < 0 || what > 4) {
            return BAD;
        }
        return what < 3 ? works.get(w)[what] : world.told[w][what - 3];
    }

    /** One SEASON; which WORKS were DONE. */
    private boolean[] season(World x) {
        boolean[] done = new boolean[works.size()];
        for (int w = 0; w < works.size(); w++) {
            int t = works.get(w)[0];
            int v = works.get(w)[1];
            int has = x.stock[t][v];
            done[w] = has > 0 || say(t, v) != NONE;
            x.told[w][done[w] ? 0 : 1]++;
            if (has > 0) {
                int cost = switch (verbs.get(v)[0]) {
                    case 1 -> x.season % 2 == 0 ? 0 : 1;
                    case 3 -> has == 1 ? 1 : 2;
                    default -> 1;
                };
                x.stock[t][v] = has - cost;
            }
        }
        for (int t = 0; t < 4; t++) {
            if (x.field[t] != null) {
                int v = x.field[t];
                int crop = verbs.get(v)[1];
                x.stock[t][v] += verbs.get(v)[0] == 2 ? crop + crop : crop;
                x.stock[t][v] = x.stock[t][v] > 60 ? 60 : x.stock[t][v];
            }
            x.field[t] = null;
        }
        for (int[] row : x.stock) {
            for (int v = 0; v < row.length; v++) {
                row[v] = row[v] < 40 ? row[v] : row[v] - (int) (row[v] * 0.1 + 1e-9);
            }
        }
        x.season++;
        return done;
    }

    private void remember() {
        past.push(world.twin());
        if (past.size() > 8) {
            past.removeLast();
        }
    }

    int pass(int n) {
        if (n < 1 || n > 10) {
            return BAD;
        }
        remember();
        for (int i = 0; i < n; i++) {
            season(world);
        }
        return world.season;
    }

    private int refused(int t, int u, int v, int n, int most) {
        if (noVillage(t) || noVillage(u) || noVerb(v) || t == u || n < 1 || n > most) {
            return BAD;
        }
        return world.stock[t][v] < n ? NO : world.stock[u][v] > 60 - n ? FULL : 0;
    }

    int give(int t, int u, int v, int n) {
        int refused = refused(t, u, v, n, 60);
        if (refused < 0) {
            return refused;
        }
        remember();
        world.stock[t][v] -= n;
        world.stock[u][v] += n;
        return world.stock[u][v];
    }

    /** How sowing leaves the world, or null if it cannot be. */
    private World sownWorld(int t, int v) {
        World next = world.twin();
        if (next.field[t] != null) {
            return null;
        }
        next.field[t] = v;
        if (next.stock[t][v] > 0) {
            next.stock[t][v]--;
            return next;
        }
        for (int u = 0; u < verbs.size(); u++) {
            if (verbs.get(u)[0] == 1 && next.stock[t][u] > 1) {
                next.stock[t][u] -= 2;
                return next;
            }
        }
        return null;
    }

    int sow(int t, int v) {
        if (noVillage(t) || noVerb(v)) {
            return BAD;
        }
        World next = sownWorld(t, v);
        if (next == null) {
            return NO;
        }
        remember();
        world = next;
        return world.stock[t][v];
    }

    int undo() {
        if (past.isEmpty()) {
            return NO;
        }
        world = past.pop();
        return past.size();
    }

    int behind(int n, int t, int v, int what) {
        if (n < 0 || n > 40 || noVillage(t) || noVerb(v) || what < 0 || what > 2) {
            return BAD;
        }
        World x = world.twin();
        int worth = 0;
        int forgotten = 0;
        for (int i = 0; i < n; i++) {
            boolean[] done = season(x);
            for (int w = 0; w < done.length; w++) {
                if (works.get(w)[0] == t) {
                    worth += done[w] ? works.get(w)[2] : 0;
                    forgotten += done[w] ? 0 : 1;
                }
            }
        }
        return what == 0 ? x.stock[t][v] : what == 1 ? worth : forgotten;
    }

    int silent(int what) {
        if (what < 0 || what > 1) {
            return BAD;
        }
        World x = world.twin();
        for (int i = 1; i <= 40; i++) {
            boolean[] done = season(x);
            for (int w = 0; w < done.length; w++) {
                if (!done[w]) {
                    return what == 0 ? w : i;
                }
            }
        }
        return NONE;
    }

    int lasts(int t) {
        if (noVillage(t)) {
            return BAD;
        }
        World x = world.twin();
        for (int i = 0; i <= 40; i++) {
            boolean[] done = season(x);
            for (int w = 0; w < done.length; w++) {
                if (!done[w] && works.get(w)[0] == t) {
                    return i;
                }
            }
        }
        return 41;
    }

    /** The least stock, tried from 0 on, by which all works of t said by v are done in the next season. */
    private int need(int t, int v) {
        for (int n = 0; ; n++) {
            World x = world.twin();
            x.stock[t][v] = n;
            boolean[] done = season(x);
            boolean all = true;
            for (int w = 0; w < done.length; w++) {
                all &= done[w] || works.get(w)[0] != t || works.get(w)[1] != v;
            }
            if (all) {
                return n;
            }
        }
    }

    int sent() {
        int sum = 0;
        for (int v = 0; v < verbs.size(); v++) {
            int lacks = 0;
            int spare = 0;
            for (int t = 0; t < villages.size(); t++) {
                int more = world.stock[t][v] - need(t, v);
                lacks += more < 0 ? -more : 0;
                spare += more > 0 ? more : 0;
            }
            if (lacks > spare) {
                return NONE;
            }
            sum += lacks;
        }
        return sum;
    }

    private static boolean isMore(int[] a, int[] b) {
        return b == null || Arrays.compare(a, b) > 0;
    }

    int share(int v, int n, int t) {
        if (noVerb(v) || n < 1 || n > 9 || t < -1 || t >= villages.size()) {
            return BAD;
        }
        int all = total(v);
        // best[u]: worth, then uses by village, of u uses by the works so far
        int[][] best = new int[all + 1][];
        best[0] = new int[5];
        for (int[] w : works) {
            if (w[1] != v) {
                continue;
            }
            int[][] next = new int[all + 1][];
            for (int u = 0; u <= all; u++) {
                for (int k = 0; k <= n && k <= u; k++) {
                    if (best[u - k] != null) {
                        int[] way = best[u - k].clone();
                        way[0] += k * w[2];
                        way[1 + w[0]] += k;
                        next[u] = isMore(way, next[u]) ? way : next[u];
                    }
                }
            }
            best = next;
        }
        int[] most = null;
        for (int[] way : best) {
            most = way != null && isMore(way, most) ? way : most;
        }
        return most[t + 1];
    }

    private boolean noRow(int set) {
        return set < 1 || set >= 1 << nouns.size();
    }

    private List<Integer> meanings(int set) {
        List<Integer> meanings = new ArrayList<>();
        for (int v = 0; v < verbs.size(); v++) {
            boolean all = true;
            for (int n = 0; n < nouns.size(); n++) {
                all &= (set >> n) % 2 == 0 || (nouns.get(n) >> v) % 2 == 1;
            }
            if (all) {
                meanings.add(v);
            }
        }
        return meanings;
    }

    int readings(int set) {
        return noRow(set) ? BAD : meanings(set).stream().mapToInt(v -> 1 << v).sum();
    }

    int say(int t, int v) {
        if (noVillage(t) || noVerb(v)) {
            return BAD;
        }
        for (int size = 1; size <= nouns.size(); size++) {
            for (int set = 1; set < 1 << nouns.size(); set++) {
                boolean own = Integer.bitCount(set) == size;
                for (int n = 0; n < nouns.size(); n++) {
                    own &= (set >> n) % 2 == 0 || hasNoun(t, n);
                }
                if (own && meanings(set).equals(List.of(v))) {
                    return set;
                }
            }
        }
        return NONE;
    }

    int tells(int set, int what) {
        if (noRow(set) || what < 0 || what > 1) {
            return BAD;
        }
        for (int left = 1; left <= verbs.size(); left++) {
            for (int n = 0; n < nouns.size(); n++) {
                if ((set >> n) % 2 == 0 && meanings(set + (1 << n)).size() == left) {
                    return what == 0 ? n : left;
                }
            }
        }
        return NONE;
    }

    int bred(int t) {
        if (noVillage(t)) {
            return BAD;
        }
        int bits = 0;
        for (int v = 0; v < verbs.size(); v++) {
            bits += sownWorld(t, v) == null ? 0 : 1 << v;
        }
        return bits;
    }

    int hear(int w, int season, boolean done) {
        if (noWork(w) || season < 1 || season > 9) {
            return BAD;
        }
        if (heard.size() == 6) {
            return FULL;
        }
        heard.add(new int[] {w, season, done ? 1 : 0});
        return heard.size();
    }

    int forget() {
        int n = heard.size();
        heard.clear();
        return n;
    }

    int hoard(int t, int v, int what) {
        if (noVillage(t) || noVerb(v) || what < 0 || what > 1) {
            return BAD;
        }
        List<Integer> fit = new ArrayList<>();
        for (int n = 0; n <= 30; n++) {
            World x = first.twin();
            x.stock[t][v] = n;
            boolean[][] done = new boolean[10][];
            for (int i = 1; i <= 9; i++) {
                done[i] = season(x);
            }
            if (heard.stream().allMatch(h -> done[h[1]][h[0]] == (h[2] == 1))) {
                fit.add(n);
            }
        }
        return what == 0 ? fit.size() : fit.isEmpty() ? NONE : fit.get(0);
    }

    private int worthOf(boolean[] done) {
        int sum = 0;
        for (int w = 0; w < done.length; w++) {
            sum += done[w] ? works.get(w)[2] : 0;
        }
        return sum;
    }

    int caravan(int t, int u, int v, int n) {
        int refused = refused(t, u, v, n, 9);
        if (refused < 0) {
            return refused;
        }
        World stays = world.twin();
        World goes = world.twin();
        goes.stock[t][v] -= n;
        goes.stock[u][v] += n;
        int more = 1000;
        for (int i = 0; i < 8; i++) {
            more += worthOf(season(goes)) - worthOf(season(stays));
        }
        return more;
    }

    int decade(int z, int n, int what) {
        if (z < 0 || z > 9999 || n < 1 || n > 40 || what < 0 || what > 1) {
            return BAD;
        }
        World x = world.twin();
        int worth = 0;
        int forgotten = 0;
        for (int k = 0; k < n; k++) {
            BigInteger sum = BigInteger.valueOf(7919).multiply(BigInteger.valueOf(z)).add(BigInteger.valueOf(6151L * k)).add(BigInteger.ONE);
            int draw = sum.multiply(sum).mod(BigInteger.valueOf(65521)).intValue() / 8;
            int t = draw % villages.size();
            int v = draw / 16 % verbs.size();
            if (draw / 8 % 2 != 0) {
                x.stock[t][v] = Math.min(60, x.stock[t][v] + 1);
            } else {
                x.stock[t][v] = Math.max(0, x.stock[t][v] - 1);
            }
            boolean[] done = season(x);
            worth += worthOf(done);
            for (boolean one : done) {
                forgotten += one ? 0 : 1;
            }
        }
        return what == 0 ? worth : forgotten;
    }

    int keep() {
        if (kept.size() == 2) {
            return FULL;
        }
        kept.push(world.twin());
        return kept.size();
    }

    int back() {
        if (kept.isEmpty()) {
            return NO;
        }
        world = kept.pop();
        past.clear();
        return kept.size();
    }

    int count(int what) {
        int all = 0;
        for (int v = 0; v < verbs.size(); v++) {
            all += total(v);
        }
        int[] many = {verbs.size(), nouns.size(), villages.size(), works.size(), world.season, all, heard.size(),
            past.size(), kept.size(), text.length()};
        return what < 0 || what >= many.length ? BAD : many[what];
    }
}
