/** Promises 35 (often), 36 (rank). */
public final class PlacesTest {
    public static void main(String[] args) {
        Checks c = new Checks();
        often(c);
        ranks(c);
        byDay(c);
        c.close();
    }

    private static void dueOften(Checks c, GridRoom room, int known, int s, int... due) {
        for (int what = 0; what < due.length; what++) {
            c.due("often " + s + " on " + known + " what " + what, room.often(s, known, what), due[what]);
        }
    }

    private static void often(Checks c) {
        GridRoom room = new GridRoom();
        Checks.tablet(room, "1 2 3. 1 1. 1. ? 1 ?. 1 1 1 1. 2 ?.");
        Checks.tablet(room, "1. 1 2 3. 39.");
        dueOften(c, room, 0, 1, 4, 2, 2, 3, 11);
        dueOften(c, room, 0, 2, 1, 0, 0, 2, 3);
        dueOften(c, room, 0, 3, 0, 2, 0, 0, 2);
        dueOften(c, room, 0, 39, 0, 0, 1, 0, 1);
        dueOften(c, room, 0, 0, 0, 0, 0, 0, 0);
        c.due("what 5", room.often(1, 0, 5), -1);
        c.due("what -1", room.often(1, 0, -1), -1);
        c.due("sign 40", room.often(40, 0, 0), -1);
        c.due("sign -1", room.often(-1, 0, 0), -1);
        c.due("day 1", room.often(1, 1, 0), -1);
        c.due("day -1", room.often(1, -1, 0), -1);
        room.holds(0, 1, 3, 1);
        dueOften(c, room, 0, 1, 4, 4, 2, 3, 13);
        dueOften(c, room, 0, 3, 4, 4, 2, 3, 13);
    }

    private static void dueRanks(Checks c, GridRoom room, int known, int... due) {
        for (int i = 0; i < due.length; i++) {
            c.due("rank " + i + " on " + known, room.rank(known, i), due[i]);
        }
        c.due("none behind on " + known, room.rank(known, due.length), -1);
    }

    private static void ranks(Checks c) {
        GridRoom room = new GridRoom();
        dueRanks(c, room, 0);
        // first out of all: 5 1/1, 7 2/3, 8 1/2, 2 2/4, 3 0, 9 0 (by itself is not first)
        Checks.tablet(room, "5 8 3. 7 2 2. 7 7. 8 3. 2 3. 2 3. 9. 9.");
        dueRanks(c, room, 0, 5, 7, 2, 8, 3, 9);
        c.due("rank -1", room.rank(0, -1), -1);
        c.due("rank max", room.rank(0, Integer.MAX_VALUE), -1);
        c.due("rank min", room.rank(0, Integer.MIN_VALUE), -1);
        c.due("day 1", room.rank(1, 0), -1);
        c.due("day -1", room.rank(-1, 0), -1);
        room.holds(1, 5, 3, 1);
        // 3 has 1 out of 5 now
        dueRanks(c, room, 0, 7, 2, 8, 3, 9);
    }

    private static void byDay(Checks c) {
        GridRoom room = new GridRoom();
        Checks.tablet(room, "4 5.");
        room.day(1);
        Checks.tablet(room, "5 4. 5 6.");
        room.day(1);
        room.away(0, 0);
        room.day(1);
        room.holds(2, 6, 0, 1);
        dueRanks(c, room, 0, 4, 5);
        dueRanks(c, room, 1, 5, 4, 6);
        dueRanks(c, room, 2, 5, 4, 6);
        dueRanks(c, room, 3, 5, 0, 4);
        dueOften(c, room, 0, 5, 0, 1, 0, 0, 1);
        dueOften(c, room, 1, 5, 2, 1, 0, 0, 3);
        dueOften(c, room, 2, 5, 2, 0, 0, 0, 2);
        dueOften(c, room, 3, 6, 0, 1, 0, 0, 1);
    }
}
