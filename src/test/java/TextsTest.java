/** Promises 5 (tablet), 6 (rules), 7 (place), 12 (told). */
public final class TextsTest {
    private static final int WRONG = -2;
    private static final int CANNOT_BE = -3;
    private static final int TOO_MANY = -4;

    public static void main(String[] args) {
        Checks c = new Checks();
        goodTablets(c);
        faultyTablets(c);
        goodRules(c);
        faultyRules(c);
        placesAndTapes(c);
        mostTablets(c);
        mostRules(c);
        c.close();
    }

    private static void goodTablets(Checks c) {
        GridRoom room = new GridRoom();
        c.due("blanks where one likes", Checks.tablet(room, " \n1 2\n?.\n39 . ? .0.00 07."), 0);
        int[][] rows = {{1, 2, -1}, {39}, {-1}, {0}, {0, 7}};
        for (int w = 0; w < rows.length; w++) {
            for (int i = 0; i < rows[w].length; i++) {
                c.due("told " + w + " " + i, Checks.told(room, 0, w, i), rows[w][i]);
            }
            c.due("behind word " + w, Checks.told(room, 0, w, rows[w].length), 1000);
        }
        c.due("no word 5", Checks.told(room, 0, 5, 0), 1000);
        c.due("no word -1", Checks.told(room, 0, -1, 0), 1000);
        c.due("no place -1", Checks.told(room, 0, 0, -1), 1000);
        c.due("no tablet 1", Checks.told(room, 1, 0, 0), 1000);
        c.due("no tablet -1", Checks.told(room, -1, 0, 0), 1000);
        c.due("no tablet max", Checks.told(room, Integer.MAX_VALUE, 0, 0), 1000);
        c.due("no word max", Checks.told(room, 0, Integer.MAX_VALUE, 0), 1000);
        c.due("no place max", Checks.told(room, 0, 0, Integer.MAX_VALUE), 1000);
        c.due("no place min", Checks.told(room, 0, 0, Integer.MIN_VALUE), 1000);
        c.due("8 rows of 6 places", Checks.tablet(room, Checks.repeat("1 2 3??6.", 8)), 1);
        c.due("their last", Checks.told(room, 1, 7, 5), 6);
        c.due("behind the last", Checks.told(room, 1, 7, 6), 1000);
        room.away(0, 1);
        c.due("as it was told, though put away", Checks.told(room, 1, 7, 5), 6);
        room.holds(0, 6, 1, 1);
        c.due("as it was told, whatever it STANDS as", Checks.told(room, 1, 7, 5), 6);
    }

    private static void faultyTablets(Checks c) {
        fault(c, true, "", WRONG, 0);
        fault(c, true, "   ", WRONG, 3);
        fault(c, true, "1", WRONG, 1);
        fault(c, true, "1 2 ", WRONG, 4);
        fault(c, true, ".", WRONG, 0);
        fault(c, true, "1..", WRONG, 2);
        fault(c, true, "1.2", WRONG, 3);
        fault(c, true, "1 a.", WRONG, 2);
        fault(c, true, "1 \t.", WRONG, 2);
        fault(c, true, "1;", WRONG, 1);
        fault(c, true, "1.A", WRONG, 2);
        fault(c, true, "123.", WRONG, 0);
        fault(c, true, "1 000.", WRONG, 2);
        fault(c, true, "40.", CANNOT_BE, 0);
        fault(c, true, "1 39 99.", CANNOT_BE, 5);
        fault(c, true, "40 a", CANNOT_BE, 0);
        fault(c, true, "1 a 40.", WRONG, 2);
        fault(c, true, "1 2 3 4 5 6 7.", TOO_MANY, 12);
        fault(c, true, "??????? .", TOO_MANY, 6);
        fault(c, true, "1 2 3 4 5 6 77.", TOO_MANY, 12);
        fault(c, true, "1 2 3 4 5 6 777.", WRONG, 12);
        fault(c, true, "1 2 3 4 5 6 x.", WRONG, 12);
        fault(c, true, "1 2 3 4 5 6", WRONG, 11);
        fault(c, true, Checks.repeat("1.", 8) + "2.", TOO_MANY, 16);
        fault(c, true, Checks.repeat("1.", 8) + "?", TOO_MANY, 16);
        fault(c, true, Checks.repeat("1.", 8) + "99", TOO_MANY, 16);
        fault(c, true, Checks.repeat("1.", 8) + "999", WRONG, 16);
        fault(c, true, Checks.repeat("1.", 8) + ".", WRONG, 16);
        fault(c, true, Checks.repeat("1.", 7) + "40.", CANNOT_BE, 14);
    }

    private static void goodRules(Checks c) {
        good(c, "", 0);
        good(c, " \n ", 0);
        good(c, "consonant first;", 1);
        good(c, "vowel last;vowel 1;consonant 6;", 3);
        good(c, "vowel 06 length 02 count 01 ;", 1);
        good(c, "consonant1length2count99;", 1);
        good(c, "consonant\nlast count 10;", 1);
        good(c, "vowel 3 length 6;", 1);
        good(c, "write a as e; write b as c; write z as z; drop z;", 4);
        good(c, Checks.repeat("drop k;", 12), 12);
        good(c, Checks.repeat("drop k;", 12) + " \n", 12);
    }

    private static void good(Checks c, String text, int clauses) {
        GridRoom room = new GridRoom();
        c.due("rules " + text, Checks.rules(room, text), clauses);
        c.due("place in " + text, room.place(), -1);
        c.due("RULES told by " + text, room.count(2), 1);
        c.due("the TAPE behind " + text, room.count(6), 0);
    }

    private static void faultyRules(Checks c) {
        fault(c, false, "consonant", WRONG, 9);
        fault(c, false, "consonants first;", WRONG, 0);
        fault(c, false, "conson first;", WRONG, 0);
        fault(c, false, "Vowel first;", WRONG, 0);
        fault(c, false, ";", WRONG, 0);
        fault(c, false, "drop k;;", WRONG, 7);
        fault(c, false, "1", WRONG, 0);
        fault(c, false, "vowel;", WRONG, 5);
        fault(c, false, "vowel middle;", WRONG, 6);
        fault(c, false, "vowel 0;", CANNOT_BE, 6);
        fault(c, false, "vowel 7;", CANNOT_BE, 6);
        fault(c, false, "vowel 99", CANNOT_BE, 6);
        fault(c, false, "vowel 100;", WRONG, 6);
        fault(c, false, "vowel first", WRONG, 11);
        fault(c, false, "vowel first ", WRONG, 12);
        fault(c, false, "vowel first.", WRONG, 11);
        fault(c, false, "vowel first last;", WRONG, 12);
        fault(c, false, "vowel first length;", WRONG, 18);
        fault(c, false, "vowel first length 1;", CANNOT_BE, 19);
        fault(c, false, "vowel first length 7;", CANNOT_BE, 19);
        fault(c, false, "vowel first length 222;", WRONG, 19);
        fault(c, false, "vowel first length 2 length 2;", WRONG, 21);
        fault(c, false, "vowel first count 0;", CANNOT_BE, 18);
        fault(c, false, "vowel first count 00;", CANNOT_BE, 18);
        fault(c, false, "vowel first count;", WRONG, 17);
        fault(c, false, "vowel first count x;", WRONG, 18);
        fault(c, false, "vowel first count 2 length 2;", WRONG, 20);
        fault(c, false, "vowel first count 2 count 2;", WRONG, 20);
        fault(c, false, "vowel first length 2 3;", WRONG, 21);
        fault(c, false, "write b as a;", CANNOT_BE, 11);
        fault(c, false, "write a as b;", CANNOT_BE, 11);
        fault(c, false, "write u as y", CANNOT_BE, 11);
        fault(c, false, "write ab as b;", WRONG, 6);
        fault(c, false, "write a is b;", WRONG, 8);
        fault(c, false, "write a as bb;", WRONG, 11);
        fault(c, false, "write a as;", WRONG, 10);
        fault(c, false, "write 1 as b;", WRONG, 6);
        fault(c, false, "write", WRONG, 5);
        fault(c, false, "drop a;", CANNOT_BE, 5);
        fault(c, false, "drop u", CANNOT_BE, 5);
        fault(c, false, "drop kk;", WRONG, 5);
        fault(c, false, "drop k", WRONG, 6);
        fault(c, false, "drop k t;", WRONG, 7);
        fault(c, false, "drop 1;", WRONG, 5);
        fault(c, false, Checks.repeat("drop k;", 12) + "drop k;", TOO_MANY, 84);
        fault(c, false, Checks.repeat("drop k;", 12) + " vowel", TOO_MANY, 85);
        fault(c, false, Checks.repeat("drop k;", 12) + "first", WRONG, 84);
        fault(c, false, Checks.repeat("drop k;", 12) + ";", WRONG, 84);
        fault(c, false, Checks.repeat("drop k;", 11) + "drop a;", CANNOT_BE, 82);
    }

    private static void fault(Checks c, boolean isTablet, String text, int answer, int place) {
        GridRoom room = new GridRoom();
        Checks.tape(room, text);
        c.due(text, isTablet ? room.tablet() : room.rules(), answer);
        c.due("place in " + text, room.place(), place);
        c.due("nothing is changed by " + text, room.count(1) + room.count(2), 0);
        c.due("the TAPE is empty behind " + text, room.count(6), 0);
    }

    private static void placesAndTapes(Checks c) {
        GridRoom room = new GridRoom();
        Checks.tablet(room, "1 x.");
        c.due("place", room.place(), 2);
        c.due("place once more", room.place(), 2);
        Checks.tape(room, "x");
        room.name(0);
        c.due("a NAME that is none is no text that was read", room.place(), 2);
        Checks.rules(room, "");
        c.due("the latest has none", room.place(), -1);
        Checks.rules(room, "vowel first; vowel 9;");
        c.due("the latest has one", room.place(), 19);
        Checks.tablet(room, "1.");
        c.due("the latest has none again", room.place(), -1);
        // What stood behind the end of the TAPE is no part of the text.
        Checks.tape(room, "write a as ee;");
        room.end(12);
        c.due("a WORD that was cut", room.rules(), -2);
        c.due("has one letter, and then the end", room.place(), 12);
        Checks.tape(room, "1 2.345");
        room.end(5);
        c.due("figures that were cut", room.tablet(), -2);
        c.due("are one, and then the end", room.place(), 5);
        // RULES with a FAULT leave those that were told ahead.
        Checks.rules(room, "drop k; drop t;");
        Checks.rules(room, "drop k; drop t; drop s; drop a;");
        Checks.name(room, "kak", 0);
        c.due("a FAULT changes nothing", room.spelled(0, 0), 1);
        c.due("of the last ones that have none", room.pairs(1, 1, 2, 0), 0);
        c.due("which are two CLAUSES", room.pairs(2, 1, 2, 0), -1);
        c.due("nor how many were told", room.count(2), 2);
    }

    private static void mostTablets(Checks c) {
        GridRoom room = new GridRoom();
        for (int i = 0; i < 24; i++) {
            c.due("tablet " + i, Checks.tablet(room, i + " ?."), i);
        }
        Checks.tablet(room, "1 2 x.");
        c.due("none is read beyond 24", room.place(), -1);
        Checks.tape(room, "1.");
        c.due("the 25th", room.tablet(), -1);
        c.due("the TAPE stays", room.count(6), 2);
        room.away(0, 3);
        c.due("one that is put away is there still", room.tablet(), -1);
        for (int i = 0; i < 24; i++) {
            c.due("what it says " + i, Checks.told(room, i, 0, 0), i);
        }
    }

    private static void mostRules(Checks c) {
        GridRoom room = new GridRoom();
        Checks.tablet(room, "1.");
        Checks.name(room, "abcdef", 0);
        for (int i = 0; i < 10; i++) {
            c.due("rules " + i, Checks.rules(room, "drop b;"), 1);
            c.due("a FAULT is none of the ten; beyond them nothing is read", Checks.rules(room, "drop"), i < 9 ? -2 : -1);
            c.due("place " + i, room.place(), i < 9 ? 4 : -1);
        }
        Checks.tape(room, "");
        c.due("the 11th", room.rules(), -1);
        Checks.tape(room, "drop d;");
        c.due("the 11th", room.rules(), -1);
        c.due("the TAPE stays", room.count(6), 7);
        c.due("ten were told", room.count(2), 10);
    }
}
