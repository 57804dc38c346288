import java.lang.reflect.Array;
import java.lang.reflect.Field;
import java.lang.reflect.Modifier;
import java.util.ArrayDeque;
import java.util.Collections;
import java.util.Deque;
import java.util.IdentityHashMap;
import java.util.Set;

/** All calls of one run live in one room: an object takes little of it when it is made, and no more later. */
public final class RoomTest {
    private static final Checks CHECKS = new Checks();
    private static final int CALLS = 512;

    /** All objects and rows that hang on one, the whole of it as it stands. */
    private static Set<Object> partsOf(FamineOfVerbs land) throws Exception {
        Set<Object> parts = Collections.newSetFromMap(new IdentityHashMap<>());
        Deque<Object> open = new ArrayDeque<>();
        open.add(land);
        while (!open.isEmpty()) {
            Object part = open.remove();
            if (parts.add(part)) {
                open.addAll(held(part));
            }
        }
        return parts;
    }

    private static Deque<Object> held(Object part) throws Exception {
        Deque<Object> held = new ArrayDeque<>();
        if (part instanceof Object[] row) {
            for (Object one : row) {
                held.add(one);
            }
        } else if (!part.getClass().isArray()) {
            for (Field field : part.getClass().getDeclaredFields()) {
                if (!Modifier.isStatic(field.getModifiers()) && !field.getType().isPrimitive()) {
                    field.setAccessible(true);
                    held.add(field.get(part));
                }
            }
        }
        return held;
    }

    private static int placesOf(Set<Object> parts) {
        int places = 0;
        for (Object part : parts) {
            if (part.getClass().isArray()) {
                places += Array.getLength(part);
            } else {
                for (Field field : part.getClass().getDeclaredFields()) {
                    places += Modifier.isStatic(field.getModifiers()) ? 0 : 1;
                }
            }
        }
        return places;
    }

    private static void live(FamineOfVerbs land, int call) {
        switch (call % 16) {
            case 0 -> land.pass(1 + call % 10);
            case 1 -> land.give(0, 1, 0, 1);
            case 2 -> land.sow(call % 2, call % 4);
            case 3 -> land.keep();
            case 4 -> land.hear(0, 1 + call % 9, true);
            case 5 -> land.hoard(0, 0, 0);
            case 6 -> land.decade(call, 40, 0);
            case 7 -> land.caravan(1, 0, 3, 1);
            case 8 -> land.behind(40, 0, 0, 0);
            case 9 -> land.say(0, 0);
            case 10 -> land.undo();
            case 11 -> land.write(call % 3 == 0 ? ';' : 'v');
            case 12 -> land.fault();
            case 13 -> land.sent();
            case 14 -> land.share(0, 9, -1);
            default -> land.back();
        }
    }

    public static void main(String[] args) throws Exception {
        FamineOfVerbs land = new FamineOfVerbs();
        Set<Object> first = partsOf(land);
        int places = placesOf(first);
        CHECKS.due("at most 150 objects and rows, here " + first.size(), first.size() <= 150, true);
        CHECKS.due("at most 1500 fields and elements, here " + places, places <= 1500, true);
        for (int call = 0; call < CALLS - 80; call++) {
            live(land, call);
        }
        land.wipe();
        Checks.write(land, "v0,0;v0,0;t63;t63;n1;n2;s0,0,30;w0,0,1;w1,1,9;");
        CHECKS.due("another land", land.lay(), 2);
        Set<Object> last = partsOf(land);
        CHECKS.due("the same parts", last.size() == first.size() && first.containsAll(last), true);
        CHECKS.end();
    }
}
