import java.lang.management.ManagementFactory;
import java.lang.reflect.InvocationTargetException;
import java.lang.reflect.Method;
import java.lang.reflect.Modifier;
import java.util.Arrays;
import java.util.Comparator;
import java.util.NoSuchElementException;

/** Any numbers in any state: nothing is thrown but by told, and hardly anything is made by a call. */
public final class BoundsTest {
    private static final int[] ODD = {
        0, 1, 2, 3, 5, 7, 8, 23, 24, 39, 40, 59, 60, 134, 135, 300, -1, -2, Integer.MAX_VALUE, Integer.MIN_VALUE};
    private static final int ROWS = 192;

    private final Method[] face = Arrays.stream(GridRoom.class.getDeclaredMethods())
            .filter(m -> Modifier.isPublic(m.getModifiers()))
            .sorted(Comparator.comparing(Method::getName))
            .toArray(Method[]::new);
    private long state = 4711;

    public static void main(String[] args) throws Exception {
        Checks c = new Checks();
        BoundsTest test = new BoundsTest();
        for (int run = 0; run < 300; run++) {
            test.anyNumbers(c, run);
        }
        fullRoom(c);
        madeByCalls(c);
        c.close();
    }

    private int next(int bound) {
        state = state * 6364136223846793005L + 1442695040888963407L;
        return (int) ((state >>> 33) % bound);
    }

    private void anyNumbers(Checks c, int run) throws Exception {
        GridRoom room = new GridRoom();
        if (run % 3 > 0) fill(room);
        if (run % 3 > 1) {
            room.day(7);
            room.away(0, 1);
            room.away(2, 0);
        }
        for (int i = 0; i < 400; i++) {
            if (next(9) == 0) Checks.tape(room, next(2) == 0 ? "kaku" : "1 2 3. ?.");
            call(c, room, face[next(face.length)]);
        }
    }

    private void call(Checks c, GridRoom room, Method m) throws Exception {
        Object[] with = new Object[m.getParameterCount()];
        for (int i = 0; i < with.length; i++) {
            boolean isNumber = m.getParameterTypes()[i] == int.class;
            with[i] = isNumber ? (Object) ODD[next(ODD.length)] : (Object) (next(2) == 0);
        }
        try {
            m.invoke(room, with);
        } catch (InvocationTargetException e) {
            boolean due = m.getName().equals("told") && e.getCause() instanceof NoSuchElementException;
            c.due(m + " threw " + e.getCause(), due, true);
        }
    }

    private static void fill(GridRoom room) {
        Checks.tablet(room, "1 2 3. 1 2 4. 5. 6 7.");
        Checks.tablet(room, "1 2. 3 4. ? 6.");
        Checks.rules(room, "consonant last; vowel first length 2; write l as r; drop s;");
        Checks.name(room, "kaku", 0);
        Checks.name(room, "tala", 1);
        room.share(0, 1, 2, true);
        room.share(1, 3, 4, false);
        room.holds(0, 8, 9, 1);
    }

    /** As much of everything as there can be. */
    private static void fullRoom(Checks c) {
        GridRoom room = full();
        c.due("24 TABLETS", room.count(8), 24);
        // 12 CLAUSES that each compare all 192 ROWS
        c.due("a pair of each TABLET", room.pairs(0, 0, 1, 0), 24);
        c.due("one CLASS", room.classOf(0, 7, 0), 0);
        c.due("a clash", room.clash(0, 3) >= 1, true);
        c.due("six NAMES", room.count(9), 6);
        c.due("all NAMES or none", room.ways(0) >= 0, true);
        c.due("doubt", room.doubt(0, 0) >= 0, true);
        Checks.tape(room, "kakaka");
        c.due("fits", room.fits(0) <= ROWS, true);
        Checks.tape(room, "kakaka");
        c.due("where", room.where(0) < 24, true);
    }

    private static GridRoom full() {
        GridRoom room = new GridRoom();
        for (int t = 0; t < 24; t++) {
            StringBuilder text = new StringBuilder();
            for (int r = 0; r < 8; r++) {
                text.append(t).append(' ').append(t + 1).append(' ').append(r).append('.');
            }
            Checks.tablet(room, text.toString());
        }
        Checks.rules(room, Checks.repeat("consonant 3;vowel last;", 6));
        for (int i = 0; i < 6; i++) {
            Checks.name(room, "ka" + (char) ('b' + i) + "eti", 4 * i);
        }
        for (int i = 0; i < 200; i++) {
            room.holds(i % 4, i % 39, i % 39 + 1, i % 5 == 0 ? 2 : 0);
        }
        for (int i = 0; i < 60; i++) {
            room.share(i % 2, i % 31, 32 + i % 7, i % 3 == 0);
        }
        return room;
    }

    /** All of a run is made once, by the constructor: 512 calls must fit a room of 600,000 objects. */
    private static void madeByCalls(Checks c) {
        GridRoom room = full();
        askAll(room);
        com.sun.management.ThreadMXBean bean = (com.sun.management.ThreadMXBean) ManagementFactory.getThreadMXBean();
        long thread = Thread.currentThread().getId();
        long before = bean.getThreadAllocatedBytes(thread);
        for (int i = 0; i < 10; i++) {
            askAll(room);
        }
        long made = bean.getThreadAllocatedBytes(thread) - before;
        c.due("calls make nothing, but they made bytes: " + made, made < 10000, true);
        before = bean.getThreadAllocatedBytes(thread);
        GridRoom other = new GridRoom();
        long own = bean.getThreadAllocatedBytes(thread) - before;
        c.due("an object is small: " + own + other.count(0), own < 200000, true);
    }

    private static void askAll(GridRoom room) {
        room.trust(0, 10);
        room.feed(0x6B616B65, 0x20202020, 0x20202020, 0x20202020, 0x20202020);
        room.end(4);
        room.would(0, 0);
        room.feed(0x6B616B65, 0x20202020, 0x20202020, 0x20202020, 0x20202020);
        room.rules();
        room.tablet();
        room.ways(0);
        room.way(0, 0, 0);
        room.clash(0, 0);
        room.reads(0, 0, 0);
        room.doubt(0, 0);
        room.rank(0, 0);
        room.often(0, 0, 0);
        room.settles(0, 0);
        room.could(0, 0, 0, 0);
        room.inGrid(0, 3);
        room.spelled(0, 0);
        room.cell(0, 0, 0);
        room.end(0);
    }
}
