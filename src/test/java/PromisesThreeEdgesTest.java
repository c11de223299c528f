import java.util.function.ToIntFunction;

/** Sentences of promises 26 (reads) to 37 (count). */
public final class PromisesThreeEdgesTest extends Edges {
    private static final int KA = cellOf("ka");
    private static final int KU = cellOf("ku");
    /** What no NAME is: nothing, too much, other bytes among letters. */
    private static final String[] NO_NAME = {"", "kakukakuk", "K", "ka ", " ka", "k1", "k\n", "k{", "k`", "1 2.", "drop k;"};

    public static void main(String[] args) throws Exception {
        new PromisesThreeEdgesTest().runAll();
    }

    private void refusedWithoutName(String what, ToIntFunction<GridRoom> call) {
        for (String text : NO_NAME) {
            refused(what + " with " + text, r -> tape(r, text), call, NONE);
        }
    }

    // ---- 26: reads

    /** Promise 26: "A WORD as it READS is OUT: how many bytes." */
    void aWordIsOut() {
        GridRoom room = named(room("1 2. ?. 3.", "2 1 2 1 2 1. 1."), "kazu 0");
        due("four bytes", room.reads(0, 0, 0), 4);
        due("OUT", out(room), "kazu");
        due("so many are OUT", room.count(7), 4);
        due("twelve bytes", room.reads(0, 1, 0), 12);
        due("OUT", out(room), "zukazukazuka");
        due("one byte", room.reads(0, 0, 1), 1);
        due("OUT", out(room), "?");
        due("what was OUT is out no more", room.letter(1), NONE);
        due("the last WORD", room.reads(0, 0, 2), 1);
        due("the last WORD", room.reads(0, 1, 1), 2);
        due("OUT", out(room), "ka");
        room.day(1);
        room.away(2, 0);
        due("OUT stays as it was", out(room), "ka");
        due("as known on DAY 1", room.reads(1, 0, 0), 2);
        due("OUT", out(room), "??");
        due("as known on DAY 0", room.reads(0, 0, 0), 4);
        room.away(0, 1);
        due("a WORD of a TABLET that was put away", room.reads(0, 1, 1), 2);
        due("on that DAY, too", room.reads(1, 1, 1), 1);
    }

    /** Promise 26: "NONE: no such WORD, DAY (nothing changes then)." */
    void readsRefused() {
        refusedFor("TABLET", NO_TABLETS, (r, t) -> r.reads(3, t, 0), NONE);
        refusedFor("WORD", new int[] {-1, 4, 8, MIN, MAX}, (r, w) -> r.reads(3, 0, w), NONE);
        refusedFor("WORD of a shorter TABLET", new int[] {-1, 2}, (r, w) -> r.reads(3, 2, w), NONE);
        refusedForDays("reads", (r, known) -> r.reads(known, 0, 1));
        due("the last WORD", someRoom().reads(3, 0, 3) != NONE, true);
        GridRoom room = named(room("1."), "ka 0");
        room.reads(0, 0, 0);
        room.reads(0, 0, 1);
        room.reads(0, 1, 0);
        room.reads(1, 0, 0);
        due("OUT as it was", out(room), "ka");
        due("none yet", new GridRoom().reads(0, 0, 0), NONE);
    }

    // ---- 27: letter

    /** Promise 27: "Byte i of OUT." */
    void bytesOfOut() {
        GridRoom room = named(room("0 1 2 3 4 39. 9."), "bcdfgzu 0");
        room.reads(0, 0, 0);
        String due = "bucudufuguzu";
        for (int i = 0; i < due.length(); i++) {
            due("byte " + i, room.letter(i), due.charAt(i));
        }
        room.reads(0, 0, 1);
        due("what can't be told", room.letter(0), '?');
        due("it is 63", room.letter(0), 63);
    }

    /** Promise 27: "NONE: there is none such." */
    void letterRefused() {
        int size = someRoom().count(7);
        due("some are OUT", size > 0, true);
        due("the last", someRoom().letter(size - 1) != NONE, true);
        refusedFor("byte", new int[] {-1, size, size + 1, 12, MIN, MAX}, (r, i) -> r.letter(i), NONE);
        due("nothing is OUT", new GridRoom().letter(0), NONE);
        GridRoom full = named(room("0 1 2 3 4 39."), "bcdfgzu 0");
        full.reads(0, 0, 0);
        due("the twelfth", full.letter(11), 'u');
        due("no thirteenth", full.letter(12), NONE);
    }

    // ---- 28: settles

    /** Promise 28: "SETTLING: what 0 the SIGN, 1 that number." */
    void settling() {
        GridRoom room = named(room("38 39. 39 0. 0 38."), "kaku 0");
        due("the SIGN", room.settles(0, 0), 0);
        due("one WAY", room.settles(0, 1), 1);
        room.day(1);
        tablet(room, "39. 38. 37. 36.");
        named(room, "ta 1");
        due("of like ones the least on DAY 1", room.settles(1, 0), 0);
        // 38 39 with 37, 36; 39 0 with 38, 37, 36; 0 38 with 39, 37, 36: 38 is ka twice, ta once, ku three times, none twice;
        // 39 is ku twice, ka three times, ta once, none twice; 0 is ku, ka three times each, none twice
        due("that number", room.settles(1, 1), 3);
        due("on DAY 0 as ever", room.settles(0, 1), 1);
    }

    /** Promise 28: "NONE: no WAY, no such ones." */
    void settlesRefused() {
        for (int what = 0; what < 2; what++) {
            int one = what;
            refused("no WAY, what " + what, r -> named(r, "k 0"), r -> r.settles(3, one), NONE);
        }
        refusedFor("what", new int[] {-1, 2, MIN, MAX}, (r, what) -> r.settles(3, what), NONE);
        refusedForDays("settles", (r, known) -> r.settles(known, 1));
        due("the one WAY without NAMES", new GridRoom().settles(0, 1), 1);
    }

    // ---- 29: would

    /** Promise 29: "How many WAYS the TAPE (empty then) WOULD leave as a NAME of a TABLET." */
    void wouldLeave() {
        GridRoom room = named(room("1. 2.", "1. 2. 3."), "ka 0");
        tape(room, "ka");
        due("two", room.would(0, 1), 2);
        due("the TAPE is empty", room.count(6), 0);
        tape(room, "ku");
        due("four", room.would(0, 1), 4);
        tape(room, "k");
        due("none", room.would(0, 1), 0);
        due("the TAPE is empty", room.count(6), 0);
        tape(room, "aeiouaei");
        due("none of eight CELLS", room.would(0, 0), 0);
        room.day(1);
        rules(room, "write t as k;");
        tape(room, "ta");
        due("ta without RULES", room.would(0, 1), 4);
        tape(room, "ta");
        due("ta as ka", room.would(1, 1), 2);
        due("no NAME was told", room.count(4), 1);
        GridRoom full = named(room("1. 2."), "ka 0", "ku 0", "ta 0", "tu 0", "b 0", "c 0");
        for (int name = 1; name < 6; name++) {
            full.away(2, name);
        }
        tape(full, "sa");
        due("though six were told", full.would(0, 0), 2);
    }

    /** Promise 29: "NONE: no such ones, the TABLET doesn't COUNT, no NAME (the TAPE stays)." */
    void wouldRefused() {
        refusedFor("TABLET", NO_TABLETS, (r, t) -> r.would(3, t), NONE);
        refusedForDays("would", (r, known) -> r.would(known, 0));
        refused("a TABLET that came later", r -> r.would(2, 2), NONE);
        refused("a TABLET that was put away", r -> r.away(0, 1), r -> r.would(3, 1), NONE);
        refusedWithoutName("would", r -> r.would(3, 0));
        GridRoom room = room("1.");
        room.day(2);
        room.away(0, 0);
        tape(room, "ka");
        due("on the DAY on which it was put away", room.would(2, 0), NONE);
        due("the TAPE stays", room.count(6), 2);
        due("on the DAY before", room.would(1, 0), 1);
        due("the TAPE is empty", room.count(6), 0);
    }

    // ---- 30: fits

    /** Promise 30: "FITS of the TAPE (empty then) as a NAME." */
    void fitting() {
        GridRoom room = named(room("1 2.", "1. 2. 3."), "kaku 0");
        tape(room, "ka");
        due("1", room.fits(0), 1);
        due("the TAPE is empty", room.count(6), 0);
        tape(room, "ta");
        due("3", room.fits(0), 1);
        tape(room, "aeiouaei");
        due("none", room.fits(0), 0);
        due("the TAPE is empty", room.count(6), 0);
        room.day(1);
        room.away(2, 0);
        tape(room, "ta");
        due("beside no NAME", room.fits(1), 3);
        tape(room, "ta");
        due("as known on DAY 0", room.fits(0), 1);
        GridRoom none = new GridRoom();
        tape(none, "ka");
        due("no TABLET", none.fits(0), 0);
        due("the TAPE is empty", none.count(6), 0);
    }

    /** Promise 30: "NONE: no such DAY, no NAME (the TAPE stays)." */
    void fitsRefused() {
        refusedForDays("fits", (r, known) -> r.fits(known));
        refusedWithoutName("fits", r -> r.fits(3));
    }

    // ---- 31: doubt

    /** Promise 31: "DOUBT: what 0 how many NAMES (0: there is a WAY), 1 the set as bits." */
    void doubting() {
        GridRoom room = named(room("1.", "1. 2."), "ka 0", "ku 1");
        due("there is a WAY", room.doubt(0, 0), 0);
        due("no set", room.doubt(0, 1), 0);
        named(room, "ta 0");
        due("one", room.doubt(0, 0), 1);
        due("the first", room.doubt(0, 1), 1);
        room.day(1);
        named(room, "b 1", "c 1");
        due("three", room.doubt(1, 0), 3);
        due("the first and the two without CELLS", room.doubt(1, 1), 0b11001);
        due("on DAY 0 as ever", room.doubt(0, 0), 1);
        due("no NAME", new GridRoom().doubt(0, 0), 0);
        GridRoom all = named(room("1."), "b 0", "c 0", "d 0", "f 0", "g 0", "h 0");
        due("all", all.doubt(0, 0), 6);
        due("all", all.doubt(0, 1), 63);
        all.away(2, 0);
        due("all that COUNT", all.doubt(0, 1), 62);
    }

    /** Promise 31: "NONE: no such ones." */
    void doubtRefused() {
        refusedFor("what", new int[] {-1, 2, MIN, MAX}, (r, what) -> r.doubt(3, what), NONE);
        refusedForDays("doubt", (r, known) -> r.doubt(known, 0));
    }

    // ---- 32: could

    /** Promise 32: "What a SIGN (as it STANDS) COULD BE: of CELL i of these what 0 the CELL, 1 in how many WAYS." */
    void couldBe() {
        GridRoom room = named(room("0 1. 1 0. 2 0. 3 0.", "4. 5."), "kuka 0");
        due("the first CELL", room.could(0, 0, 0, 0), KA);
        due("in three WAYS", room.could(0, 0, 0, 1), 3);
        due("the second", room.could(0, 0, 1, 0), KU);
        due("in one WAY", room.could(0, 0, 1, 1), 1);
        room.holds(0, 39, 0, 1);
        due("39 STANDS as 0", room.could(0, 39, 0, 1), 3);
        room.day(1);
        room.holds(0, 3, 2, 1);
        due("3 STANDS as 2", room.could(1, 3, 0, 1), 2);
        due("not on DAY 0", room.could(0, 3, 0, 1), 1);
        // What else is asked for leaves that as it is.
        due("WAY 3", room.way(0, 3, 0), 3);
        due("WAY 3", room.given(0, 3, 0), KA);
        tape(room, "ta");
        due("would", room.would(0, 1), 8);
        tape(room, "ta");
        due("where", room.where(0), 1);
        tape(room, "ta");
        due("fits", room.fits(0), 2);
        due("doubt", room.doubt(0, 0), 0);
        due("in three WAYS still", room.could(0, 0, 0, 1), 3);
        due("in one WAY still", room.could(0, 0, 1, 1), 1);
        due("in one WAY still", room.could(0, 3, 0, 1), 1);
        GridRoom ends = named(room("39 0."), "azu 0");
        due("CELL 0", ends.could(0, 39, 0, 0), 0);
        due("CELL 134", ends.could(0, 0, 0, 0), 134);
        String all = "1.?.?.?.?.?.?.?.";
        String other = "?.?.?.?.?.?.?.?.";
        GridRoom most = named(room(all, other, other, other, other, other), "a 0", "e 1", "i 2", "o 3", "u 4", "ka 5");
        due("in an eighth of all", most.could(0, 1, 0, 1), 32768);
    }

    /** Promise 32: "NONE: there is none such." */
    void couldRefused() {
        refusedFor("SIGN", NO_SIGNS, (r, s) -> r.could(3, s, 0, 0), NONE);
        refusedFor("SIGN without", new int[] {0, 39}, (r, s) -> r.could(3, s, 0, 1), NONE);
        refusedFor("CELL", new int[] {-1, 1, 135, MIN, MAX}, (r, i) -> r.could(3, 2, i, 0), NONE);
        refusedFor("CELL", new int[] {-1, 1, MIN, MAX}, (r, i) -> r.could(3, 2, i, 1), NONE);
        refusedFor("what", new int[] {-1, 2, MIN, MAX}, (r, what) -> r.could(3, 2, 0, what), NONE);
        refusedForDays("could", (r, known) -> r.could(known, 2, 0, 0));
        refused("no WAY", r -> named(r, "k 0"), r -> r.could(3, 2, 0, 0), NONE);
    }

    // ---- 33: inGrid

    /** Promise 33: "The SIGN that has a CELL of THE GRID." */
    void signOfACell() {
        GridRoom room = named(room("0 39. ? 39."), "azu 0", "azu 0");
        due("unlike ROWS", room.ways(0), 2);
        due("CELL 0", room.inGrid(0, 0), 0);
        due("CELL 134", room.inGrid(0, 134), 39);
        room.day(1);
        room.holds(0, 39, 7, 1);
        due("as it STANDS", room.inGrid(1, 134), 7);
        due("on DAY 0", room.inGrid(0, 134), 39);
    }

    /** Promise 33: "NONE: none, no such ones." */
    void inGridRefused() {
        refusedFor("CELL", new int[] {-1, 135, MIN, MAX}, (r, cell) -> r.inGrid(3, cell), NONE);
        refusedFor("CELL of none", new int[] {0, 134, KA}, (r, cell) -> r.inGrid(3, cell), NONE);
        refusedForDays("inGrid", (r, known) -> r.inGrid(known, someRoom().forced(3, 2)));
        refused("no WAY", r -> named(r, "k 0"), r -> r.inGrid(3, KU), NONE);
        due("there is one else", someRoom().inGrid(3, KU), 2);
    }

    // ---- 34: where

    /** Promise 34: "WHERE the TAPE (empty then) as a new NAME tells most: the TABLET." */
    void whereItTells() {
        GridRoom room = room("1. 2. 3.", "1. 2.", "1. 2.", "1 2.");
        tape(room, "ka");
        due("the fewest, the least", room.where(0), 1);
        due("the TAPE is empty", room.count(6), 0);
        tape(room, "kaku");
        due("the only one", room.where(0), 3);
        room.day(1);
        room.away(0, 1);
        tape(room, "ka");
        due("on DAY 1", room.where(1), 2);
        tape(room, "ka");
        due("on DAY 0", room.where(0), 1);
    }

    /** Promise 34: "NONE: none;" */
    void whereNone() {
        for (String text : new String[] {"k", "aeiouaei", "ktktktka"}) {
            GridRoom room = room("1. 2. 3.", "1 2.");
            tape(room, text);
            due("none for " + text, room.where(0), NONE);
            due("the TAPE is empty", room.count(6), 0);
        }
        GridRoom without = named(room("1 1. 2."), "kaku 0");
        tape(without, "ka");
        due("no WAY without it", without.where(0), NONE);
        due("the TAPE is empty", without.count(6), 0);
        GridRoom none = new GridRoom();
        tape(none, "ka");
        due("no TABLET", none.where(0), NONE);
        due("the TAPE is empty", none.count(6), 0);
        GridRoom gone = room("1.");
        gone.away(0, 0);
        tape(gone, "ka");
        due("no TABLET that COUNTS", gone.where(0), NONE);
        due("the TAPE is empty", gone.count(6), 0);
    }

    /** Promise 34: "no such DAY, no NAME (the TAPE stays then)." */
    void whereRefused() {
        refusedFor("where on DAY", NO_DAYS, (r, known) -> r.where(known), NONE);
        refusedWithoutName("where", r -> r.where(3));
        GridRoom room = room("1.");
        tape(room, "ka");
        due("no such DAY", room.where(1), NONE);
        due("the TAPE stays", room.count(6), 2);
        due("the DAY at hand", room.where(0), 0);
        due("the TAPE is empty", room.count(6), 0);
    }

    // ---- 35: often

    /** Promise 35: "HOW OFTEN a SIGN (as it STANDS) is what 0 first, 1 last, 2 by itself, 3 within, 4 in all." */
    void howOften() {
        GridRoom room = room("0 39. 0 39. 39. 0 39 39 0.", "0 0 0. 0. 0. 0.");
        int[][] due = {{4, 2, 3, 1, 10}, {0, 2, 1, 2, 5}};
        for (int what = 0; what < 5; what++) {
            due("SIGN 0 what " + what, room.often(0, 0, what), due[0][what]);
            due("SIGN 39 what " + what, room.often(39, 0, what), due[1][what]);
        }
        room.day(1);
        room.holds(0, 39, 0, 1);
        for (int what = 0; what < 5; what++) {
            due("both on DAY 1 what " + what, room.often(39, 1, what), due[0][what] + due[1][what]);
            due("one on DAY 0 what " + what, room.often(39, 0, what), due[1][what]);
        }
        due("nowhere", room.often(20, 0, 4), 0);
        GridRoom full = new GridRoom();
        for (int t = 0; t < 24; t++) {
            tablet(full, "7 7 7 7 7 7.".repeat(8));
        }
        int[] most = {192, 192, 0, 768, 1152};
        for (int what = 0; what < most.length; what++) {
            due("as often as can be, what " + what, full.often(7, 0, what), most[what]);
        }
    }

    /** Promise 35: "NONE: no such ones." */
    void oftenRefused() {
        refusedFor("SIGN", NO_SIGNS, (r, s) -> r.often(s, 3, 4), NONE);
        refusedFor("what", new int[] {-1, 5, MIN, MAX}, (r, what) -> r.often(1, 3, what), NONE);
        refusedForDays("often", (r, known) -> r.often(1, known, 0));
    }

    // ---- 36: rank

    /** Promise 36: "The SIGN that has RANK i." */
    void signsByRank() {
        GridRoom room = room("39 0. 39 0.", "0 39.");
        due("2 of 3", room.rank(0, 0), 39);
        due("1 of 3", room.rank(0, 1), 0);
        room.day(1);
        tablet(room, "0 1.");
        due("2 of 3", room.rank(1, 0), 39);
        due("2 of 4", room.rank(1, 1), 0);
        due("none of 1", room.rank(1, 2), 1);
        room.day(1);
        tablet(room, "0 2.");
        due("3 of 5", room.rank(2, 1), 0);
        due("of like ones by numbers", room.rank(2, 2), 1);
        due("of like ones by numbers", room.rank(2, 3), 2);
        due("on DAY 0 as ever", room.rank(0, 1), 0);
        room.holds(0, 39, 0, 1);
        due("ONE have one RANK", room.rank(2, 0), 0);
        due("ONE have one RANK", room.rank(2, 1), 1);
        // The counts are as great as there can be: 24 times 8 ROWS of 6 places.
        GridRoom full = new GridRoom();
        for (int t = 0; t < 24; t++) {
            tablet(full, "9 9 9 9 9 9.".repeat(7) + (t == 0 ? "9 8 9 9 9 9." : "9 9 9 9 9 9."));
        }
        due("192 of 1151", full.rank(0, 0), 9);
        due("none of 1", full.rank(0, 1), 8);
    }

    /** Promise 36: "NONE: there is none such." */
    void rankRefused() {
        int there = 0;
        GridRoom some = someRoom();
        for (int s = 0; s < 40; s++) {
            there += some.sign(s, 3) == s && some.often(s, 3, 4) > 0 ? 1 : 0;
        }
        due("the last", some.rank(3, there - 1) != NONE, true);
        refusedFor("RANK", new int[] {-1, there, there + 1, 40, MIN, MAX}, (r, i) -> r.rank(3, i), NONE);
        refusedForDays("rank", (r, known) -> r.rank(known, 0));
        due("none yet", new GridRoom().rank(0, 0), NONE);
    }

    // ---- 37: count

    /** Promise 37: "what 0 DAY, 1 TABLETS, 2 RULES told, 3 SHARES, 4 NAMES, 5 what HANDS told, 6 bytes of the TAPE, 7 of OUT, 8 TABLETS that COUNT today, 9 NAMES that do." */
    void counts() {
        GridRoom room = someRoom();
        int[] due = {3, 3, 1, 2, 2, 1, 4, 4, 3, 2};
        for (int what = 0; what < due.length; what++) {
            due("what " + what, room.count(what), due[what]);
        }
        room.day(1);
        room.away(0, 1);
        room.away(2, 0);
        int[] then = {4, 3, 1, 2, 2, 1, 4, 4, 2, 1};
        for (int what = 0; what < then.length; what++) {
            due("then what " + what, room.count(what), then[what]);
        }
        GridRoom full = full();
        int[] most = {100000, 24, 10, 60, 6, 0, 300, 12, 24, 6};
        for (int what = 0; what < most.length; what++) {
            due("most of what " + what, full.count(what), most[what]);
        }
        GridRoom held = new GridRoom();
        for (int i = 0; i < 200; i++) {
            held.holds(0, 1, 2, 1);
        }
        due("most that HANDS told", held.count(5), 200);
    }

    private static GridRoom full() {
        GridRoom room = new GridRoom();
        for (int t = 0; t < 24; t++) {
            tablet(room, "1 2 3 4 5 6.");
        }
        for (int i = 0; i < 10; i++) {
            rules(room, "");
        }
        for (int i = 0; i < 60; i++) {
            room.share(i % 2, 30, 31, true);
        }
        for (int i = 0; i < 6; i++) {
            name(room, "bcdfghu", i);
        }
        days(room, 100000);
        room.reads(0, 0, 0);
        tape(room, " ".repeat(300));
        return room;
    }

    /** Promise 37: "NONE for others." */
    void countsOfOthers() {
        refusedFor("what", new int[] {-1, 10, 11, MIN, MAX}, (r, what) -> r.count(what), NONE);
    }
}
