/** Promises 8 (away), 9 (trust), 10 (holds), 11 (sign). */
public final class HandsTest {
    public static void main(String[] args) {
        Checks c = new Checks();
        puttingAway(c);
        trusting(c);
        holding(c);
        standing(c);
        standingByDay(c);
        mostHeld(c);
        c.close();
    }

    private static void puttingAway(Checks c) {
        GridRoom room = new GridRoom();
        Checks.tablet(room, "1 2 3. 1 2 4.");
        room.share(0, 1, 2, true);
        Checks.name(room, "kakaka", 0);
        for (int what = 0; what < 3; what++) {
            c.due("no such one " + what, room.away(what, 1), false);
            c.due("no such one " + what, room.away(what, -1), false);
            c.due("no such one " + what, room.away(what, Integer.MAX_VALUE), false);
            c.due("no such one " + what, room.away(what, Integer.MIN_VALUE), false);
        }
        c.due("no such kind 3", room.away(3, 0), false);
        c.due("no such kind -1", room.away(-1, 0), false);
        room.day(2);
        c.due("away", room.away(1, 0), true);
        c.due("away already", room.away(1, 0), false);
        c.due("known ahead", room.links(0, 1), 1);
        c.due("known on that DAY", room.links(0, 2), 0);
        room.day(3);
        c.due("away already, on another DAY too", room.away(1, 0), false);
        c.due("away", room.away(0, 0), true);
        c.due("away already", room.away(0, 0), false);
        c.due("known ahead", room.often(1, 4, 4), 2);
        c.due("known on that DAY", room.often(1, 5, 4), 0);
        c.due("away", room.away(2, 0), true);
        c.due("away already", room.away(2, 0), false);
        c.due("on the DAY on which it came", room.share(0, 7, 8, true), 1);
        c.due("on the DAY on which it came", room.away(1, 1), true);
        c.due("it never counts", room.links(0, 5), 0);
    }

    private static void trusting(Checks c) {
        GridRoom room = new GridRoom();
        c.due("trust 0", room.trust(0, 0), true);
        c.due("trust 99", room.trust(3, 99), true);
        c.due("trust 100", room.trust(0, 100), false);
        c.due("trust -1", room.trust(0, -1), false);
        c.due("hand 4", room.trust(4, 1), false);
        c.due("hand -1", room.trust(-1, 1), false);
        c.due("hand max", room.trust(Integer.MAX_VALUE, 1), false);
        room.holds(0, 1, 2, 1);
        c.due("none is not more than none", room.sign(2, 0), 2);
        room.trust(0, 1);
        c.due("one is", room.sign(2, 0), 1);
        room.holds(1, 1, 2, 0);
        c.due("ten at first", room.sign(2, 0), 2);
        room.trust(0, 10);
        c.due("like ones are not more", room.sign(2, 0), 2);
        room.trust(0, 11);
        c.due("11 is more", room.sign(2, 0), 1);
        room.holds(2, 2, 1, 0);
        c.due("two against one", room.sign(2, 0), 2);
        room.trust(0, 20);
        c.due("20 against 20", room.sign(2, 0), 2);
        room.holds(3, 1, 2, 1);
        c.due("119 against 20", room.sign(2, 0), 1);
        room.day(1);
        room.trust(3, 0);
        c.due("always as it is now", room.sign(2, 0), 2);
    }

    private static void holding(Checks c) {
        GridRoom room = new GridRoom();
        c.due("hand 4", room.holds(4, 1, 2, 1), false);
        c.due("hand -1", room.holds(-1, 1, 2, 1), false);
        c.due("sign -1", room.holds(0, -1, 2, 1), false);
        c.due("sign 40", room.holds(0, 1, 40, 1), false);
        c.due("sign 40", room.holds(0, 40, 1, 1), false);
        c.due("sign -1", room.holds(0, 1, -1, 1), false);
        c.due("one sign", room.holds(0, 1, 1, 1), false);
        c.due("value 3", room.holds(0, 1, 2, 3), false);
        c.due("value -1", room.holds(0, 1, 2, -1), false);
        c.due("nothing was told", room.count(5), 0);
        c.due("the ends", room.holds(3, 39, 0, 1), true);
        c.due("as the least", room.sign(39, 0), 0);
        c.due("the least itself", room.sign(0, 0), 0);
        c.due("says nothing", room.holds(3, 0, 39, 2), true);
        c.due("then they are two", room.sign(39, 0), 39);
        room.holds(3, 39, 0, 0);
        room.holds(2, 39, 0, 1);
        c.due("one against one", room.sign(39, 0), 39);
        room.holds(3, 39, 0, 1);
        c.due("what it told last counts", room.sign(39, 0), 0);
        c.due("all that was told", room.count(5), 5);
        room.holds(0, 20, 21, 1);
        room.holds(1, 20, 21, 2);
        room.holds(0, 20, 21, 2);
        c.due("what it told last counts, though another told between", room.sign(21, 0), 21);
    }

    private static void standing(Checks c) {
        GridRoom room = new GridRoom();
        room.holds(0, 9, 7, 1);
        room.holds(1, 7, 5, 1);
        room.holds(2, 30, 9, 1);
        room.holds(2, 20, 21, 1);
        int[] of = {9, 7, 5, 30};
        for (int s : of) {
            c.due("by others " + s, room.sign(s, 0), 5);
        }
        c.due("of another lot", room.sign(21, 0), 20);
        c.due("of none", room.sign(8, 0), 8);
        // Held for unlike ones, but ONE by way of others.
        room.holds(3, 9, 5, 0);
        c.due("by others nevertheless", room.sign(9, 0), 5);
        room.holds(0, 12, 10, 1);
        room.holds(0, 12, 11, 1);
        c.due("by one above both", room.sign(11, 0), 10);
        c.due("the one above both", room.sign(12, 0), 10);
        c.due("sign -1", room.sign(-1, 0), -1);
        c.due("sign 40", room.sign(40, 0), -1);
        c.due("day -1", room.sign(1, -1), -1);
        c.due("day 1", room.sign(1, 1), -1);
        c.due("sign 39", room.sign(39, 0), 39);
        for (int s = 0; s < 39; s++) {
            room.holds(0, s, s + 1, 1);
        }
        c.due("a long chain", room.sign(39, 0), 0);
    }

    private static void standingByDay(Checks c) {
        GridRoom room = new GridRoom();
        room.day(1);
        room.holds(0, 4, 3, 1);
        room.day(2);
        room.holds(0, 3, 4, 0);
        room.day(2);
        room.holds(0, 4, 3, 2);
        room.holds(1, 4, 2, 1);
        room.holds(1, 4, 2, 0);
        room.holds(1, 4, 2, 1);
        int[] due = {4, 3, 3, 4, 4, 2};
        for (int known = 0; known < due.length; known++) {
            c.due("4 as known on " + known, room.sign(4, known), due[known]);
        }
        c.due("3 as known on 5", room.sign(3, 5), 3);
        c.due("3 as known on 2", room.sign(3, 2), 3);
    }

    private static void mostHeld(Checks c) {
        GridRoom room = new GridRoom();
        for (int i = 0; i < 199; i++) {
            c.due("told " + i, room.holds(i % 4, 1, 2 + i % 20, i % 3), true);
        }
        c.due("the 200th", room.holds(0, 38, 39, 1), true);
        c.due("the 201st", room.holds(0, 36, 37, 1), false);
        c.due("200 were told", room.count(5), 200);
        c.due("by the 200th", room.sign(39, 0), 38);
        c.due("not by the 201st", room.sign(37, 0), 37);
    }
}
