/**
 * Promises 22 (ways), 23 (way), 24 (given), 25 (forced), 26 (reads), 27 (letter), 28 (settles), 29 (would), 30 (fits),
 * 31 (doubt), 32 (could), 33 (inGrid), 34 (where).
 */
public final class WaysTest {
    private static final int KA = 55;
    private static final int KE = 56;
    private static final int KU = 59;
    private static final int TA = 100;
    private static final int TU = 104;

    public static void main(String[] args) {
        Checks c = new Checks();
        withoutNames(c);
        oneName(c);
        twoNamesOfOneTablet(c);
        likeRows(c);
        agreeing(c);
        agreeingByClass(c);
        agreeingParted(c);
        unreadPlaces(c);
        countingNames(c);
        standing(c);
        numbering(c);
        reading(c);
        settling(c);
        wouldLeave(c);
        fitting(c);
        doubting(c);
        couldBe(c);
        whereItTells(c);
        c.close();
    }

    /** A room with TABLETS; NAMES are told as "letters tablet". */
    private static GridRoom room(String[] tablets, String... names) {
        GridRoom room = new GridRoom();
        for (String tablet : tablets) {
            if (Checks.tablet(room, tablet) < 0) {
                throw new IllegalStateException(tablet);
            }
        }
        for (String name : names) {
            String[] parts = name.split(" ");
            if (Checks.name(room, parts[0], Integer.parseInt(parts[1])) < 0) {
                throw new IllegalStateException(name);
            }
        }
        return room;
    }

    private static String[] tablets(String... all) {
        return all;
    }

    private static void withoutNames(Checks c) {
        GridRoom room = room(tablets("1 2."));
        c.due("one WAY", room.ways(0), 1);
        c.due("day 1", room.ways(1), -1);
        c.due("day -1", room.ways(-1), -1);
        c.due("no NAME in it", room.way(0, 0, 0), -1);
        c.due("no CELL in it", room.given(0, 0, 1), -1);
        c.due("nothing forced", room.forced(0, 1), -1);
        c.due("nothing could be", room.could(0, 1, 0, 0), -1);
        c.due("no doubt", room.doubt(0, 0), 0);
        c.due("no doubt", room.doubt(0, 1), 0);
        c.due("settles the least SIGN", room.settles(0, 0), 0);
        c.due("in one WAY", room.settles(0, 1), 1);
        c.due("no grid", room.inGrid(0, KA), -1);
    }

    private static void oneName(Checks c) {
        GridRoom room = room(tablets("1 2. 3. 4 5. 6 6."), "kaku 0");
        c.due("ROWS of two places, but for 6 6", room.ways(0), 2);
        c.due("first", room.way(0, 0, 0), 0);
        c.due("second", room.way(0, 1, 0), 2);
        c.due("no third", room.way(0, 2, 0), -1);
        c.due("none ahead", room.way(0, -1, 0), -1);
        c.due("far off", room.way(0, Integer.MAX_VALUE, 0), -1);
        c.due("far off", room.given(0, Integer.MAX_VALUE, 1), -1);
        c.due("no NAME 1", room.way(0, 0, 1), -1);
        c.due("no NAME -1", room.way(0, 0, -1), -1);
        c.due("no DAY 1", room.way(1, 0, 0), -1);
        c.due("given 1", room.given(0, 0, 1), KA);
        c.due("given 2", room.given(0, 0, 2), KU);
        c.due("given 4", room.given(0, 0, 4), -1);
        c.due("given 4 then", room.given(0, 1, 4), KA);
        c.due("given 1 then", room.given(0, 1, 1), -1);
        c.due("given 40", room.given(0, 0, 40), -1);
        c.due("given -1", room.given(0, 0, -1), -1);
        c.due("no WAY 2", room.given(0, 2, 1), -1);
        c.due("no WAY -1", room.given(0, -1, 1), -1);
        c.due("no DAY", room.given(1, 0, 1), -1);
        c.due("nothing forced", room.forced(0, 1), -1);
        c.due("forced 40", room.forced(0, 40), -1);
        c.due("forced -1", room.forced(0, -1), -1);
        c.due("forced on no day", room.forced(1, 1), -1);
        GridRoom like = room(tablets("1 2. 3. 4 5. 6 6."), "kaka 0");
        c.due("6 6 alone", like.ways(0), 1);
        c.due("6 6 alone", like.way(0, 0, 0), 3);
        c.due("forced 6", like.forced(0, 6), KA);
        c.due("in the grid", like.inGrid(0, KA), 6);
        c.due("not there", like.inGrid(0, KU), -1);
        c.due("cell -1", like.inGrid(0, -1), -1);
        c.due("cell 135", like.inGrid(0, 135), -1);
        c.due("cell max", like.inGrid(0, Integer.MAX_VALUE), -1);
        c.due("no day", like.inGrid(1, KA), -1);
        GridRoom none = room(tablets("1 2. 3."), "kakaka 0");
        c.due("no ROW of its length", none.ways(0), 0);
        GridRoom eight = room(tablets("1.2.3.4.5.6.7.8."), "kaku 0");
        c.due("no ROW of its length among eight", eight.ways(0), 0);
        GridRoom bare = room(tablets("1 2. 3."), "k 0");
        c.due("no CELLS", bare.ways(0), 0);
        c.due("given of none", bare.given(0, 0, 1), -1);
        c.due("forced of none", bare.forced(0, 1), -1);
        c.due("grid of none", bare.inGrid(0, KA), -1);
        GridRoom longName = room(tablets("1 2 3 4 5 6."), "aeiouae 0");
        c.due("seven CELLS", longName.ways(0), 0);
    }

    private static void twoNamesOfOneTablet(Checks c) {
        GridRoom room = room(tablets("1. 2. 3."), "ka 0", "ku 0");
        c.due("unlike ROWS", room.ways(0), 6);
        int[][] due = {{0, 1}, {0, 2}, {1, 0}, {1, 2}, {2, 0}, {2, 1}};
        for (int k = 0; k < due.length; k++) {
            c.due("way " + k, room.way(0, k, 0), due[k][0]);
            c.due("way " + k, room.way(0, k, 1), due[k][1]);
        }
        GridRoom same = room(tablets("1. 2."), "ka 0", "ka 0");
        c.due("unlike SIGNS have unlike CELLS", same.ways(0), 0);
        GridRoom more = room(tablets("1. 2."), "ka 0", "ku 0", "ta 0");
        c.due("three on two", more.ways(0), 0);
        c.due("one too many, the least", more.doubt(0, 1), 1);
    }

    private static void likeRows(Checks c) {
        GridRoom room = room(tablets("1. 1."), "ka 0", "ka 0");
        c.due("two ROWS that say the same are two", room.ways(0), 2);
        c.due("forced", room.forced(0, 1), KA);
        GridRoom unread = room(tablets("?. ?."), "ka 0", "ku 0");
        c.due("so are two that can't be read", unread.ways(0), 2);
    }

    private static void agreeing(Checks c) {
        // Across TABLETS a SIGN has one CELL, and a CELL one SIGN.
        GridRoom room = room(tablets("1 2. 3 4.", "2 1. 5 6. 1 2."), "kaku 0", "kuka 1");
        c.due("1 2 goes with 2 1, 3 4 goes with both", room.ways(0), 1);
        c.due("as the first", room.way(0, 0, 0), 0);
        c.due("as the first", room.way(0, 0, 1), 0);
        GridRoom other = room(tablets("1 2. 3 4.", "2 1. 5 6. 1 2."), "kaku 0", "tatu 1");
        // 1 2 with 5 6; 3 4 with 2 1, 5 6, 1 2
        c.due("with unlike CELLS", other.ways(0), 4);
        c.due("way 0", other.way(0, 0, 1), 1);
        c.due("way 3", other.way(0, 3, 1), 2);
        GridRoom within = room(tablets("1 2 1. 1 2 3. 1 1 1."), "kakuka 0");
        c.due("within a ROW", within.ways(0), 1);
        c.due("the first of them", within.way(0, 0, 0), 0);
    }

    private static void agreeingByClass(Checks c) {
        GridRoom room = room(tablets("1 2. 3 4. 5 6. 7 8."), "kaku 0");
        c.due("all four", room.ways(0), 4);
        room.share(1, 1, 2, true);
        c.due("1 and 2 have the same vowel: not so", room.ways(0), 3);
        room.share(0, 3, 4, true);
        c.due("3 and 4 have the same consonant: they do", room.ways(0), 3);
        room.share(1, 5, 9, true);
        room.share(1, 9, 6, true);
        c.due("by another", room.ways(0), 2);
        c.due("the first", room.way(0, 0, 0), 1);
        room.share(1, 7, 1, true);
        c.due("only SIGNS that have CELLS", room.ways(0), 2);
        GridRoom bare = room(tablets("1 2. 3 4."), "ae 0");
        bare.share(0, 1, 2, true);
        c.due("none is a consonant, too", bare.ways(0), 2);
        GridRoom mixed = room(tablets("1 2. 3 4."), "aka 0");
        mixed.share(0, 1, 2, true);
        c.due("none is another than k", mixed.ways(0), 1);
        mixed.share(1, 3, 4, true);
        c.due("the same vowel, with and without", mixed.ways(0), 1);
        // Of one CLASS of both SORTS: they can't be unlike.
        mixed.share(0, 3, 4, true);
        c.due("of one CLASS of both", mixed.ways(0), 0);
        GridRoom byRows = room(tablets("1 2 3. 1 2 4.", "3 4. 5 6."), "kaku 1");
        c.due("without RULES", byRows.ways(0), 2);
        byRows.day(1);
        Checks.rules(byRows, "vowel last;");
        c.due("with RULES", byRows.ways(1), 1);
        c.due("without, as known ahead", byRows.ways(0), 2);
    }

    private static void agreeingParted(Checks c) {
        GridRoom room = room(tablets("1 2. 3 4. 5 6."), "kaku 0");
        room.share(0, 2, 1, false);
        c.due("PARTED have unlike consonants", room.ways(0), 2);
        room.share(1, 3, 4, false);
        c.due("PARTED have unlike vowels: they do", room.ways(0), 2);
        GridRoom bare = room(tablets("1 2. 3 4."), "ae 0");
        bare.share(0, 1, 2, false);
        c.due("none and none are no unlike ones", bare.ways(0), 1);
        GridRoom vowels = room(tablets("1 2. 3 4."), "kata 0");
        vowels.share(1, 3, 4, false);
        c.due("unlike vowels", vowels.ways(0), 1);
        vowels.share(0, 3, 4, false);
        vowels.away(1, 0);
        c.due("a SHARE that is put away", vowels.ways(0), 2);
        GridRoom across = room(tablets("1. 2.", "3. 4."), "ka 0", "ku 1");
        across.share(0, 1, 3, false);
        c.due("across NAMES", across.ways(0), 3);
        across.share(1, 2, 4, true);
        c.due("across NAMES by CLASS", across.ways(0), 2);
        c.due("the first", across.way(0, 0, 1), 1);
        c.due("the second", across.way(0, 1, 1), 0);
    }

    private static void unreadPlaces(Checks c) {
        GridRoom room = room(tablets("1 ?. ? 2. ? ?.", "1. ?."), "kaku 0", "ka 1");
        // 1 ? with 1, or ?; ? 2 with 1, or ?; ? ? with 1, or ?
        c.due("a place that can't be read tells nothing", room.ways(0), 6);
        c.due("could be", room.could(0, 1, 0, 0), KA);
        c.due("in four of six", room.could(0, 1, 0, 1), 4);
        c.due("no other", room.could(0, 1, 1, 0), -1);
        c.due("and 2", room.could(0, 2, 0, 0), KU);
        c.due("in two", room.could(0, 2, 0, 1), 2);
    }

    private static void countingNames(Checks c) {
        GridRoom room = room(tablets("1. 2.", "3. 4. 5."), "ka 0", "ku 1");
        room.day(1);
        room.away(0, 1);
        room.day(1);
        room.away(2, 0);
        room.day(1);
        Checks.tablet(room, "7. 8. 9. 10.");
        Checks.name(room, "ta", 2);
        c.due("both", room.ways(0), 6);
        c.due("without the TABLET of one", room.ways(1), 2);
        c.due("none of those that do not take part", room.way(1, 0, 1), -1);
        c.due("the other", room.way(1, 1, 0), 1);
        c.due("without both", room.ways(2), 1);
        c.due("no ROW", room.way(2, 0, 0), -1);
        c.due("with a new one", room.ways(3), 4);
        c.due("which is none ahead", room.way(2, 0, 2), -1);
        c.due("its ROW", room.way(3, 3, 2), 3);
        c.due("as known ahead", room.way(0, 5, 1), 2);
    }

    private static void standing(Checks c) {
        GridRoom room = room(tablets("1 2. 3 3."), "kaku 0");
        c.due("one WAY", room.ways(0), 1);
        room.day(1);
        room.holds(0, 2, 1, 1);
        c.due("1 2 is one SIGN twice now", room.ways(1), 0);
        c.due("not ahead", room.ways(0), 1);
        GridRoom other = room(tablets("5 2. 3 9."), "kaku 0");
        other.holds(0, 1, 2, 1);
        c.due("given as it STANDS", other.given(0, 0, 2), KU);
        c.due("given as it STANDS", other.given(0, 0, 1), KU);
        other.away(2, 0);
        Checks.name(other, "kaku", 0);
        other.holds(0, 5, 3, 1);
        other.holds(0, 9, 2, 1);
        c.due("both ROWS say the same", other.ways(0), 2);
        c.due("so it is forced", other.forced(0, 5), KA);
        c.due("so it is forced", other.forced(0, 9), KU);
        c.due("in the grid as it STANDS", other.inGrid(0, KU), 1);
        c.due("could be as it STANDS", other.could(0, 9, 0, 1), 2);
        other.reads(0, 0, 0);
        c.due("reads", Checks.out(other).equals("kaku"), true);
    }

    private static void numbering(Checks c) {
        String all = "?.?.?.?.?.?.?.?.";
        GridRoom room = room(tablets(all, all, all, all, all, all, all), "ka 0", "ke 1", "ki 2", "ko 3", "ku 4", "a 5");
        c.due("8 to the 6th", room.ways(0), 262144);
        c.due("the first NAME", room.way(0, 262143 - 8, 0), 7);
        c.due("the last", room.way(0, 262143, 5), 7);
        c.due("the last but 8", room.way(0, 262143 - 8, 4), 6);
        c.due("the last NAME goes fastest", room.way(0, 5, 5), 5);
        c.due("the next one then", room.way(0, 8, 4), 1);
        c.due("none behind", room.way(0, 262144, 0), -1);
        Checks.tape(room, "ra");
        c.due("a seventh NAME", room.would(0, 6), 2097152);
        Checks.tape(room, "ra");
        c.due("of a TABLET that has one", room.would(0, 2), 262144 * 7);
        Checks.tape(room, "ra");
        c.due("fits all ROWS", room.fits(0), 56);
        Checks.tape(room, "ra");
        c.due("tells most where one is", room.where(0), 0);
        c.due("no doubt", room.doubt(0, 1), 0);
        c.due("settles nothing", room.settles(0, 1), 262144);
    }

    private static void reading(Checks c) {
        GridRoom room = room(tablets("1 2 3. 2 1 1.", "3 2 ? 1 1 9."), "kaate 0");
        c.due("nothing is OUT", room.count(7), 0);
        c.due("one WAY", room.ways(0), 1);
        c.due("six places", room.reads(0, 1, 0), 9);
        c.due("reads", Checks.out(room).equals("tea?kaka?"), true);
        c.due("count", room.count(7), 9);
        c.due("letter 0", room.letter(0), 't');
        c.due("letter 8", room.letter(8), '?');
        c.due("letter 9", room.letter(9), -1);
        c.due("letter -1", room.letter(-1), -1);
        c.due("letter max", room.letter(Integer.MAX_VALUE), -1);
        c.due("no tablet", room.reads(0, 2, 0), -1);
        c.due("no tablet", room.reads(0, -1, 0), -1);
        c.due("no word", room.reads(0, 1, 1), -1);
        c.due("no word", room.reads(0, 1, -1), -1);
        c.due("no day", room.reads(1, 1, 0), -1);
        c.due("nothing changes then", Checks.out(room).equals("tea?kaka?"), true);
        c.due("another word", room.reads(0, 0, 1), 5);
        c.due("reads", Checks.out(room).equals("akaka"), true);
        room.away(0, 1);
        c.due("a WORD of a TABLET that is put away", room.reads(0, 1, 0), 9);
        room.away(0, 0);
        c.due("without WAYS to tell", room.reads(0, 1, 0), 6);
        c.due("reads", Checks.out(room).equals("??????"), true);
        GridRoom full = room(tablets("1 2 3 4 5 6."), "a 0");
        c.due("no WAY", full.ways(0), 0);
        c.due("nothing is forced", full.reads(0, 0, 0), 6);
        full.away(2, 0);
        Checks.rules(full, "");
        Checks.name(full, "aktrsz", 0);
        c.due("eleven bytes", full.reads(0, 0, 0), 11);
        c.due("reads", Checks.out(full).equals("akatarasaza"), true);
        GridRoom most = room(tablets("1 2 3 4 5 6."), "bcdzyxu 0");
        c.due("twelve bytes", most.reads(0, 0, 0), 12);
        c.due("reads", Checks.out(most).equals("bucuduzuyuxu"), true);
    }

    private static void settling(Checks c) {
        GridRoom room = room(tablets("1 2. 2 3. 3 1. 4 1."), "kaku 0");
        // 1: KA, none, KU, KU; 2: KU, KA, none, none; 3: none, KU, KA, none; 4: none three times
        c.due("four WAYS", room.ways(0), 4);
        c.due("the least of like ones", room.settles(0, 0), 1);
        c.due("two agree", room.settles(0, 1), 2);
        c.due("what 2", room.settles(0, 2), -1);
        c.due("what -1", room.settles(0, -1), -1);
        c.due("day 1", room.settles(1, 0), -1);
        c.due("day -1", room.settles(-1, 0), -1);
        GridRoom other = room(tablets("7 2. 2 3. 3 7."), "kaku 0");
        // 7: KA, none, KU; 2: KU, KA, none; 3: none, KU, KA
        c.due("the least", other.settles(0, 0), 2);
        c.due("one agrees", other.settles(0, 1), 1);
        GridRoom third = room(tablets("1 2. 1 3. 1 9. 8 9."), "kaku 0");
        // 1: KA three times; 2, 3, 8: none three times; 9: KU twice, none twice
        c.due("the ninth", third.settles(0, 0), 9);
        c.due("two agree", third.settles(0, 1), 2);
        GridRoom fourth = room(tablets("1 2. 3 2. 4 2."), "kaa 0");
        // 2: CELL 0 in all three; 1, 3, 4: none twice
        c.due("not the next SIGN's CELL", fourth.settles(0, 0), 1);
        c.due("two agree", fourth.settles(0, 1), 2);
        GridRoom none = room(tablets("1."), "kaku 0");
        c.due("no WAY", none.settles(0, 0), -1);
        c.due("no WAY", none.settles(0, 1), -1);
        GridRoom sure = room(tablets("1 2."), "kaku 0");
        c.due("the least SIGN of all", sure.settles(0, 0), 0);
        c.due("one WAY", sure.settles(0, 1), 1);
    }

    private static void wouldLeave(Checks c) {
        GridRoom room = room(tablets("1 2. 3 4. 5 6.", "1. 3. 9. 6."), "kaku 0");
        Checks.tape(room, "ka");
        c.due("day 1", room.would(1, 1), -1);
        c.due("day -1", room.would(-1, 1), -1);
        c.due("tablet 2", room.would(0, 2), -1);
        c.due("tablet -1", room.would(0, -1), -1);
        c.due("the TAPE stays", room.count(6), 2);
        c.due("1 with 1, 3 with 3", room.would(0, 1), 2);
        c.due("the TAPE is empty", room.count(6), 0);
        c.due("no NAME", room.would(0, 1), -1);
        Checks.tape(room, "kA");
        c.due("no NAME", room.would(0, 1), -1);
        c.due("the TAPE stays", room.count(6), 2);
        c.due("nothing was told", room.count(4), 1);
        c.due("as many WAYS as ahead", room.ways(0), 3);
        Checks.tape(room, "ta");
        // 1 2 with 3, 9, 6; 3 4 with 1, 9, 6; 5 6 with 1, 3, 9
        c.due("nine", room.would(0, 1), 9);
        Checks.tape(room, "ku");
        c.due("one", room.would(0, 1), 1);
        Checks.tape(room, "tatu");
        c.due("of the same TABLET", room.would(0, 0), 6);
        Checks.tape(room, "k");
        c.due("without CELLS", room.would(0, 1), 0);
        c.due("the TAPE is empty then, too", room.count(6), 0);
        room.day(1);
        room.away(0, 1);
        Checks.tape(room, "ku");
        c.due("the TABLET doesn't COUNT", room.would(1, 1), -1);
        c.due("the TAPE stays", room.count(6), 2);
        c.due("it does ahead", room.would(0, 1), 1);
        Checks.rules(room, "write k as t;");
        Checks.tape(room, "ku");
        c.due("by RULES as known", room.would(0, 1), 1);
        Checks.tablet(room, "1. 3. 9. 6.");
        Checks.tape(room, "ku");
        c.due("a TABLET that came later", room.would(0, 2), -1);
        c.due("now", room.would(1, 2), 1);
        Checks.name(room, "ko", 2);
        for (int i = 0; i < 4; i++) {
            Checks.name(room, "ke", 1);
        }
        c.due("six", room.count(4), 6);
        Checks.tape(room, "ta");
        // ta and to by now: 1 2 with 1, and one of 3, 9, 6; 3 4 with 3, and one of 1, 9, 6
        c.due("a seventh can be asked for", room.would(1, 2), 6);
    }

    private static void fitting(Checks c) {
        GridRoom room = room(tablets("1 2. 3 4. 5 6.", "1. 3. 9. 6. 9. 7 8."), "kaku 0");
        Checks.tape(room, "ka");
        c.due("day 1", room.fits(1), -1);
        c.due("day -1", room.fits(-1), -1);
        c.due("the TAPE stays", room.count(6), 2);
        c.due("1, 3", room.fits(0), 2);
        c.due("the TAPE is empty", room.count(6), 0);
        c.due("no NAME", room.fits(0), -1);
        Checks.tape(room, "ka ");
        c.due("no NAME", room.fits(0), -1);
        c.due("the TAPE stays", room.count(6), 3);
        Checks.tape(room, "ta");
        c.due("1, 3, 9, 6, 9", room.fits(0), 5);
        Checks.tape(room, "tatu");
        c.due("each ROW of two but the WAY's own", room.fits(0), 4);
        Checks.tape(room, "kaku");
        c.due("a ROW with the same CELLS would be another's", room.fits(0), 0);
        Checks.tape(room, "k");
        c.due("without CELLS", room.fits(0), 0);
        c.due("the TAPE is empty then, too", room.count(6), 0);
        GridRoom own = room(tablets("1 2."), "kaku 0");
        Checks.tape(own, "kaku");
        c.due("that ROW is the WAY's own", own.fits(0), 0);
        Checks.tablet(own, "1 2.");
        Checks.tape(own, "kaku");
        c.due("the other one isn't", own.fits(0), 1);
        own.away(0, 1);
        Checks.tape(own, "kaku");
        c.due("of TABLETS that COUNT", own.fits(0), 0);
        GridRoom none = room(tablets("1 2. 3."), "kakuka 0");
        Checks.tape(none, "ka");
        c.due("without a WAY", none.fits(0), 0);
        GridRoom bare = room(tablets("1 2. 3 3. ? ?.", "4 5."));
        Checks.tape(bare, "kaku");
        c.due("without NAMES", bare.fits(0), 3);
        bare.share(1, 4, 5, true);
        Checks.tape(bare, "kaku");
        c.due("it must agree with itself", bare.fits(0), 2);
    }

    private static void doubting(Checks c) {
        GridRoom room = room(tablets("1. 2.", "1.", "3 4."), "ka 0", "ku 1", "kuta 2");
        c.due("what 2", room.doubt(0, 2), -1);
        c.due("what -1", room.doubt(0, -1), -1);
        c.due("day 1", room.doubt(1, 0), -1);
        c.due("day -1", room.doubt(-1, 0), -1);
        // 1 is ku, and 3 is ku
        c.due("one of them", room.doubt(0, 0), 1);
        c.due("the second", room.doubt(0, 1), 2);
        Checks.name(room, "ku", 0);
        // ka, ku of TABLET 0; ku of TABLET 1 is 1, so it goes with ku of TABLET 0 as 1; kuta never
        c.due("one", room.doubt(0, 0), 1);
        c.due("the third", room.doubt(0, 1), 4);
        Checks.name(room, "k", 0);
        c.due("two", room.doubt(0, 0), 2);
        c.due("the third and the fifth", room.doubt(0, 1), 20);
        room.away(2, 4);
        c.due("one that is put away is in no doubt", room.doubt(0, 1), 4);
        room.away(0, 2);
        c.due("nor one whose TABLET is", room.doubt(0, 1), 0);
        c.due("nor one whose TABLET is", room.doubt(0, 0), 0);
        GridRoom all = room(tablets("1."), "k 0", "t 0", "s 0", "r 0", "n 0", "m 0");
        c.due("all six", all.doubt(0, 0), 6);
        c.due("all six", all.doubt(0, 1), 63);
        GridRoom least = room(tablets("1.", "1.", "1."), "ka 0", "ku 1", "ka 2");
        c.due("fewest first", least.doubt(0, 0), 1);
        c.due("though not the least bits", least.doubt(0, 1), 2);
        GridRoom bits = room(tablets("1.", "1.", "2.", "2."), "ka 0", "ku 1", "ta 2", "tu 3");
        c.due("two", bits.doubt(0, 0), 2);
        c.due("the least as bits", bits.doubt(0, 1), 5);
    }

    private static void couldBe(Checks c) {
        GridRoom room = room(tablets("1 2. 2 1. 1 3. 4 5."), "kuka 0");
        int[][] due = {{KA, 1}, {KU, 2}};
        for (int i = 0; i < due.length; i++) {
            c.due("could be " + i, room.could(0, 1, i, 0), due[i][0]);
            c.due("in so many " + i, room.could(0, 1, i, 1), due[i][1]);
        }
        c.due("no third", room.could(0, 1, 2, 0), -1);
        c.due("no third", room.could(0, 1, 2, 1), -1);
        c.due("none ahead", room.could(0, 1, -1, 0), -1);
        c.due("far off", room.could(0, 1, Integer.MAX_VALUE, 0), -1);
        c.due("what 2", room.could(0, 1, 0, 2), -1);
        c.due("what -1", room.could(0, 1, 0, -1), -1);
        c.due("sign 40", room.could(0, 40, 0, 0), -1);
        c.due("sign -1", room.could(0, -1, 0, 0), -1);
        c.due("day 1", room.could(1, 1, 0, 0), -1);
        c.due("of none", room.could(0, 9, 0, 0), -1);
        c.due("3", room.could(0, 3, 0, 0), KA);
        c.due("4", room.could(0, 4, 0, 0), KU);
        c.due("no grid", room.inGrid(0, KA), -1);
        // Whatever is asked for between leaves what all WAYS say as it is.
        c.due("way 3", room.way(0, 3, 0), 3);
        c.due("way 2", room.given(0, 2, 3), KA);
        Checks.tape(room, "tu");
        c.due("would", room.would(0, 0), 0);
        Checks.tape(room, "tatu");
        c.due("would, of 4 5 with each other one", room.would(0, 0), 6);
        Checks.tape(room, "tatu");
        c.due("fits", room.fits(0), 4);
        Checks.tape(room, "tatu");
        c.due("where", room.where(0), 0);
        c.due("doubt", room.doubt(0, 0), 0);
        c.due("KU as often as ever", room.could(0, 1, 1, 1), 2);
        c.due("KA as often as ever", room.could(0, 1, 0, 1), 1);
        c.due("as many WAYS as ever", room.ways(0), 4);
        GridRoom grid = room(tablets("1 2. 1 3.", "4."), "keka 0", "tu 1");
        c.due("in all WAYS", grid.inGrid(0, KE), 1);
        c.due("not in all", grid.inGrid(0, KA), -1);
        c.due("of the other NAME", grid.inGrid(0, TU), 4);
        c.due("of none", grid.inGrid(0, TA), -1);
        c.due("the last CELL", grid.inGrid(0, 134), -1);
        GridRoom ends = room(tablets("38 39 0."), "azuka 0");
        c.due("CELL 0", ends.inGrid(0, 0), 38);
        c.due("CELL 134", ends.inGrid(0, 134), 39);
        c.due("CELL 0 is forced", ends.forced(0, 38), 0);
        c.due("CELL 0 is given", ends.given(0, 0, 38), 0);
        c.due("CELL 0 could be", ends.could(0, 38, 0, 0), 0);
        c.due("one CELL alone", ends.could(0, 39, 1, 0), -1);
        c.due("one CELL alone", ends.could(0, 38, 1, 0), -1);
        c.due("SIGN 0", ends.inGrid(0, KA), 0);
        GridRoom next = room(tablets("1 2."), "kaa 0");
        c.due("not the next SIGN's CELL", next.could(0, 1, 1, 0), -1);
    }

    private static void whereItTells(Checks c) {
        GridRoom room = room(tablets("1 2. 3 4.", "7. 8. 9.", "5. 6.", "1. 2.", "2. 8."), "kaku 0");
        Checks.tape(room, "ta");
        c.due("day 1", room.where(1), -1);
        c.due("day -1", room.where(-1), -1);
        c.due("the TAPE stays", room.count(6), 2);
        // TABLET 1 leaves 6, 2 leaves 4, 3 leaves 2 (with 3 4), 4 leaves 3
        c.due("the fewest", room.where(0), 3);
        c.due("the TAPE is empty", room.count(6), 0);
        c.due("no NAME", room.where(0), -1);
        Checks.tape(room, "Ta");
        c.due("no NAME", room.where(0), -1);
        c.due("the TAPE stays", room.count(6), 2);
        Checks.tape(room, "ka");
        // 3 leaves 1 (1 with 1 2), the others none: 5, 7, 8 are unlike SIGNS
        c.due("one at least", room.where(0), 3);
        Checks.tape(room, "kutata");
        c.due("none", room.where(0), -1);
        c.due("the TAPE is empty then, too", room.count(6), 0);
        room.day(1);
        room.away(0, 3);
        Checks.tape(room, "ta");
        c.due("of TABLETS that COUNT", room.where(1), 4);
        Checks.tape(room, "ta");
        c.due("as known ahead", room.where(0), 3);
        Checks.tablet(room, "5. 4.");
        Checks.tape(room, "ta");
        c.due("of like ones the least", room.where(1), 4);
        Checks.tape(room, "taka");
        c.due("its own TABLET too, if that goes", room.where(1), -1);
        Checks.tape(room, "tatu");
        c.due("its own TABLET too, if that goes", room.where(1), 0);
    }
}
