/** Promises 1 (a new object), 2 (day), 3 (feed), 4 (end), 37 (count). */
public final class DaysAndTapeTest {
    public static void main(String[] args) {
        Checks c = new Checks();
        newObject(c);
        days(c);
        feeding(c);
        ending(c);
        counting(c);
        c.close();
    }

    private static void newObject(Checks c) {
        GridRoom room = new GridRoom();
        for (int what = 0; what < 10; what++) {
            c.due("count of a new object " + what, room.count(what), 0);
        }
        c.due("NONE", GridRoom.NONE, -1);
        c.due("place at first", room.place(), -1);
        c.due("letter at first", room.letter(0), -1);
        c.due("no RULES", room.pairs(0, 1, 2, 0), -1);
        c.due("one WAY without NAMES", room.ways(0), 1);
        c.due("nothing to put away", room.away(0, 0), false);
        GridRoom other = new GridRoom();
        room.day(5);
        Checks.tablet(room, "1.");
        c.due("objects are apart: DAY", other.count(0), 0);
        c.due("objects are apart: TABLETS", other.count(1), 0);
    }

    private static void days(Checks c) {
        GridRoom room = new GridRoom();
        c.due("day(0)", room.day(0), 0);
        c.due("day(1)", room.day(1), 1);
        c.due("day(1000)", room.day(1000), 1001);
        c.due("day(1001)", room.day(1001), -1);
        c.due("day(-1)", room.day(-1), -1);
        c.due("day(min)", room.day(Integer.MIN_VALUE), -1);
        c.due("day(max)", room.day(Integer.MAX_VALUE), -1);
        c.due("nothing went by", room.count(0), 1001);
        for (int i = 0; i < 98; i++) {
            room.day(1000);
        }
        c.due("day 99001", room.count(0), 99001);
        c.due("to above the last", room.day(1000), -1);
        c.due("to the last", room.day(999), 100000);
        c.due("one more", room.day(1), -1);
        c.due("none more", room.day(0), 100000);
        c.due("a SIGN known on the last", room.sign(7, 100000), 7);
        c.due("known above the last", room.sign(7, 100001), -1);
    }

    private static void feeding(Checks c) {
        GridRoom room = new GridRoom();
        c.due("feed", room.feed(0x31202E20, 0x20202020, 0x20202020, 0x20202020, 0x2032202E), 20);
        c.due("highest byte first", room.tablet(), 0);
        c.due("first word", Checks.told(room, 0, 0, 0), 1);
        c.due("second word", Checks.told(room, 0, 1, 0), 2);
        for (int i = 1; i <= 15; i++) {
            c.due("feed " + i, room.feed(0, 0, 0, 0, 0), 20 * i);
        }
        c.due("more than 300", room.feed(0, 0, 0, 0, 0), -1);
        c.due("it has 300 still", room.count(6), 300);
        c.due("one less", room.end(299), 299);
        c.due("still too many", room.feed(0, 0, 0, 0, 0), -1);
        c.due("end(281)", room.end(281), 281);
        c.due("301 would be too many", room.feed(0, 0, 0, 0, 0), -1);
        c.due("end(280)", room.end(280), 280);
        c.due("300 are not", room.feed(0, 0, 0, 0, 0), 300);
        // A byte above 127 is a byte like others: no text goes on with it.
        room.end(0);
        room.feed(0xFF202020, -1, -1, -1, -1);
        c.due("byte 255", room.tablet(), -2);
        c.due("at its place", room.place(), 0);
        // 300 bytes are read to their end.
        Checks.tape(room, Checks.repeat(" ", 298) + "1.");
        c.due("a text of 300 bytes", room.tablet(), 1);
        Checks.tape(room, Checks.repeat("\n", 299) + "1");
        c.due("a text that lacks its end", room.tablet(), -2);
        c.due("the end is at 300", room.place(), 300);
    }

    private static void ending(Checks c) {
        GridRoom room = new GridRoom();
        c.due("end(0) of none", room.end(0), 0);
        c.due("end(1) of none", room.end(1), -1);
        c.due("end(-1)", room.end(-1), -1);
        c.due("end(min)", room.end(Integer.MIN_VALUE), -1);
        room.feed(0x61626364, 0, 0, 0, 0);
        c.due("end(21)", room.end(21), -1);
        c.due("it has 20 still", room.count(6), 20);
        c.due("end(20)", room.end(20), 20);
        c.due("end(3)", room.end(3), 3);
        c.due("end(4)", room.end(4), -1);
        c.due("it has 3", room.count(6), 3);
        room.feed(0x2E202020, 0x20202020, 0x20202020, 0x20202020, 0x20202020);
        c.due("behind the three", room.count(6), 23);
        c.due("abc.", room.tablet(), -2);
    }

    private static void counting(Checks c) {
        GridRoom room = new GridRoom();
        Checks.tablet(room, "1 2. 3.");
        Checks.tablet(room, "1.");
        Checks.tablet(room, "4 4.");
        Checks.rules(room, "drop k;");
        Checks.rules(room, "");
        room.share(0, 1, 2, true);
        room.share(1, 1, 2, false);
        room.share(1, 1, 3, false);
        Checks.name(room, "ka", 0);
        Checks.name(room, "ta", 1);
        Checks.name(room, "ra", 1);
        Checks.name(room, "sa", 1);
        room.holds(0, 1, 2, 1);
        room.holds(0, 1, 2, 2);
        room.holds(0, 2, 2, 2);
        room.holds(3, 1, 9, 0);
        room.holds(3, 1, 8, 0);
        room.holds(3, 1, 7, 0);
        room.reads(0, 0, 0);
        Checks.tape(room, "abcdef");
        int[] due = {0, 3, 2, 3, 4, 5, 6, 2, 3, 4};
        for (int what = 0; what < due.length; what++) {
            c.due("count(" + what + ")", room.count(what), due[what]);
        }
        c.due("count(-1)", room.count(-1), -1);
        c.due("count(10)", room.count(10), -1);
        c.due("count(max)", room.count(Integer.MAX_VALUE), -1);
        c.due("count(min)", room.count(Integer.MIN_VALUE), -1);
        room.day(4);
        room.away(0, 1);
        room.away(2, 0);
        c.due("the DAY", room.count(0), 4);
        c.due("TABLETS, put away ones too", room.count(1), 3);
        c.due("NAMES, put away ones too", room.count(4), 4);
        c.due("TABLETS that COUNT", room.count(8), 2);
        c.due("NAMES that do, though their TABLET doesn't", room.count(9), 3);
    }
}
