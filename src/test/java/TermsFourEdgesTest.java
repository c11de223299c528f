/** Sentences of "Terms", part 4: NAMES, WAYS and what follows from them. */
public final class TermsFourEdgesTest extends Edges {
    private static final int KA = cellOf("ka");
    private static final int KU = cellOf("ku");
    private static final int TA = cellOf("ta");

    public static void main(String[] args) throws Exception {
        new TermsFourEdgesTest().runAll();
    }

    private void dueSpelled(String rules, String name, String cells) {
        GridRoom room = named(ruled(room("1."), rules), name + " 0");
        due(name + " by " + rules, spelled(room, 0, 0), cells);
    }

    private int would(GridRoom room, String name, int tablet) {
        tape(room, name);
        return room.would(room.count(0), tablet);
    }

    private int fits(GridRoom room, String name) {
        tape(room, name);
        return room.fits(room.count(0));
    }

    private int where(GridRoom room, String name) {
        tape(room, name);
        return room.where(room.count(0));
    }

    // ---- NAMES

    /** Terms 4: "NAMES, at most 6, numbered as they come," */
    void sixNames() {
        GridRoom room = room("1.");
        for (int i = 0; i < 6; i++) {
            if (i == 3) {
                room.away(2, 1);
            }
            due("NAME " + i, name(room, (char) ('b' + i) + "a", 0), i);
        }
        due("the 7th", name(room, "ka", 0), NONE);
        due("six were told", room.count(4), 6);
        due("the first", room.cell(0, 0, 0), cellOf("ba"));
        due("the last", room.cell(5, 0, 0), cellOf("ga"));
        due("none behind", room.cell(6, 0, 0), NONE);
    }

    /** Terms 4: "are 1 to 8 small letters and a TABLET: some WORD of it is that NAME." */
    void oneToEightLetters() {
        GridRoom room = room("1.", "2. 3.");
        due("none", name(room, "", 0), NONE);
        due("one", name(room, "a", 0), 0);
        due("eight", name(room, "abcdefgz", 0), 1);
        due("its last letter", room.cell(1, 6, 0), cellOf("ze"));
        due("nine", name(room, "abcdefghi", 0), NONE);
        due("a great one", name(room, "A", 0), NONE);
        due("ahead of the small ones", name(room, "`", 0), NONE);
        due("behind the small ones", name(room, "{", 0), NONE);
        due("a blank behind", name(room, "a ", 0), NONE);
        due("a line's end behind", name(room, "a\n", 0), NONE);
        due("a blank ahead", name(room, " a", 0), NONE);
        due("the last of eight is none", name(room, "abcdefg1", 0), NONE);
        GridRoom word = named(room("1.", "2. 3."), "a 1");
        due("a WORD of its TABLET", word.ways(0), 2);
        due("none of another one", word.could(0, 1, 0, 0), NONE);
    }

    /** Terms 4: "A NAME SPELLED, as known:" */
    void spelledAsKnown() {
        GridRoom room = named(room("1."), "laks 0");
        room.day(1);
        rules(room, "write l as r; drop s;");
        room.day(1);
        rules(room, "drop k;");
        due("on DAY 0", spelled(room, 0, 0), "la ka sa");
        due("on DAY 1", spelled(room, 0, 1), "ra ka");
        due("on DAY 2", spelled(room, 0, 2), "la sa");
    }

    /** Terms 4: "each letter is what RULES write for it (what was told last for that; else itself);" */
    void lettersAsWritten() {
        dueSpelled("write l as r;", "lala", "ra ra");
        dueSpelled("write l as r;", "kala", "ka ra");
        dueSpelled("write l as r; write l as n;", "la", "na");
        dueSpelled("write l as n; drop k; write l as r; vowel 1;", "la", "ra");
        dueSpelled("write l as r; write l as l;", "la", "la");
        // What is written is not written once more.
        dueSpelled("write l as r; write r as n;", "lara", "ra na");
        dueSpelled("write a as e; write e as a;", "kake", "ke ka");
        dueSpelled("write z as b; write u as a;", "zu", "ba");
    }

    /** Terms 4: "a consonant with a vowel right behind makes a CELL with that;" */
    void consonantWithVowel() {
        dueSpelled("", "ka", "ka");
        dueSpelled("", "kakuki", "ka ku ki");
        dueSpelled("", "kau", "ka u");
        dueSpelled("drop k;", "kaku", "ka ku");
        dueSpelled("", "babababa", "ba ba ba ba");
    }

    /** Terms 4: "a consonant without is left out, if RULES drop it (as it is written)," */
    void consonantsThatAreDropped() {
        dueSpelled("drop s;", "as", "a");
        dueSpelled("drop s;", "asta", "a ta");
        dueSpelled("drop s;", "sta", "ta");
        dueSpelled("drop s;", "ssa", "sa");
        dueSpelled("drop s;", "stas", "ta");
        dueSpelled("drop s; drop t;", "ast", "a");
        dueSpelled("drop r; write l as r;", "al", "a");
        dueSpelled("drop l; write l as r;", "al", "a ra");
        dueSpelled("drop s;", "s", "");
        dueSpelled("vowel last;".repeat(12), "as", "a sa");
        dueSpelled("vowel last;".repeat(11) + "drop s;", "as", "a");
    }

    /** Terms 4: "else it makes a CELL with the next vowel of the NAME," */
    void consonantWithTheNextVowel() {
        dueSpelled("", "kta", "ka ta");
        dueSpelled("", "akti", "a ki ti");
        dueSpelled("", "bcdfgha", "ba ca da fa ga ha");
        dueSpelled("", "ktaku", "ka ta ku");
        dueSpelled("", "aktiu", "a ki ti u");
        dueSpelled("write i as o;", "kti", "ko to");
        dueSpelled("drop t;", "ktka", "ka ka");
    }

    /** Terms 4: "without such with the latest one;" */
    void consonantWithTheLatestVowel() {
        dueSpelled("", "ak", "a ka");
        dueSpelled("", "kutik", "ku ti ki");
        dueSpelled("", "kaukt", "ka u ku tu");
        dueSpelled("", "abcdfghj", "a ba ca da fa ga ha ja");
        dueSpelled("write u as e;", "kuk", "ke ke");
    }

    /** Terms 4: "a vowel without a consonant right ahead makes a CELL by itself." */
    void vowelByItself() {
        dueSpelled("", "a", "a");
        dueSpelled("", "aeiouaei", "a e i o u a e i");
        dueSpelled("", "kai", "ka i");
        dueSpelled("", "aka", "a ka");
        // Though the consonant ahead is one that RULES drop elsewhere.
        dueSpelled("drop k;", "aka", "a ka");
    }

    /** Terms 4: "(Without vowels: no CELLS.)" */
    void withoutVowels() {
        dueSpelled("", "k", "");
        dueSpelled("", "bcdfghjk", "");
        dueSpelled("write y as w;", "y", "");
        GridRoom room = named(room("1."), "k 0");
        due("no CELL", room.cell(0, 0, 0), NONE);
        due("so no ROW", room.ways(0), 0);
    }

    /** Terms 4: "CELL: 5 times the consonant (1 to 26; 0 none), and the vowel (0 to 4)." */
    void numbersOfCells() {
        GridRoom room = named(room("1."), "azu 0", "baaeiou 0");
        due("the least", room.cell(0, 0, 0), 0);
        due("the greatest", room.cell(0, 1, 0), 134);
        due("b is the second letter", room.cell(1, 0, 0), 10);
        for (int vowel = 0; vowel < 5; vowel++) {
            due("vowel " + vowel, room.cell(1, 1 + vowel, 0), vowel);
        }
    }

    // ---- WAYS

    /** Terms 4: "A WAY: for each NAME that COUNTS (and whose TABLET does) a ROW of its TABLET," */
    void rowsForNamesThatCount() {
        GridRoom room = named(room("1. 2.", "3. 4. 5."), "ka 0", "ku 1");
        room.day(1);
        room.away(0, 0);
        room.day(1);
        room.away(2, 1);
        int[] ways = {6, 3, 1};
        for (int known = 0; known < ways.length; known++) {
            due("on DAY " + known, room.ways(known), ways[known]);
        }
        due("the first NAME on DAY 0", room.way(0, 5, 0), 1);
        due("its TABLET doesn't COUNT", room.way(1, 0, 0), NONE);
        due("the second NAME on DAY 1", room.way(1, 2, 1), 2);
        due("no CELL for a SIGN of the first", room.could(1, 1, 0, 0), NONE);
        due("it doesn't COUNT", room.way(2, 0, 1), NONE);
    }

    /** Terms 4: "two of one TABLET unlike ones," */
    void unlikeRowsOfOneTablet() {
        GridRoom room = named(room("? ?. ? ?."), "kaku 0", "kaku 0");
        due("two ROWS for two NAMES", room.ways(0), 2);
        due("the one", room.way(0, 0, 0), 0);
        due("the other", room.way(0, 0, 1), 1);
        named(room, "kaku 0");
        due("two ROWS for three", room.ways(0), 0);
        GridRoom apart = named(room("? ?.", "? ?."), "kaku 0", "kaku 1");
        due("of two TABLETS", apart.ways(0), 1);
        due("both the first ROW", apart.way(0, 0, 1), 0);
        String eight = "?.?.?.?.?.?.?.?.";
        GridRoom full = named(room(eight), "ka 0", "ke 0", "ki 0", "ko 0", "ku 0", "a 0");
        due("six of eight", full.ways(0), 8 * 7 * 6 * 5 * 4 * 3);
    }

    /** Terms 4: "with as many places as it has CELLS (1 at least)," */
    void asManyPlacesAsCells() {
        String tablet = "1. 2 3. 4 5 6. 7 8 9 10. 11 12 13 14 15. 16 17 18 19 20 21.";
        String name = "";
        for (int cells = 1; cells <= 6; cells++) {
            name += "bcdfgh".charAt(cells - 1);
            GridRoom room = named(room(tablet), name + "a 0");
            due("one ROW of " + cells, room.ways(0), 1);
            due("the ROW of " + cells, room.way(0, 0, 0), cells - 1);
        }
        due("seven CELLS", named(room(tablet), "aeiouae 0").ways(0), 0);
        due("eight CELLS", named(room(tablet), "aeiouaei 0").ways(0), 0);
        due("no CELLS", named(room(tablet), "bcd 0").ways(0), 0);
        due("one too many for all", named(room("1. 2."), "kaku 0").ways(0), 0);
        due("none of eight ROWS", named(room("1.2.3.4.5.6.7.8."), "kaku 0").ways(0), 0);
        due("one too few for all", named(room("1 2. 2 3."), "ka 0").ways(0), 0);
    }

    /** Terms 4: "so that GIVEN CELLS agree: each SIGN in these has one CELL alone," */
    void oneCellForASign() {
        due("within a ROW", named(room("1 1."), "kaku 0").ways(0), 0);
        due("within a ROW, the same CELL", named(room("1 1."), "kaka 0").ways(0), 1);
        GridRoom room = named(room("1 2.", "2 3. 3 1."), "kaku 0", "kuta 1");
        due("across NAMES", room.ways(0), 1);
        due("2 is ku", room.way(0, 0, 1), 0);
        due("first and last, unlike CELLS", named(room("0 39 1 2 3 0."), "aeioue 0").ways(0), 0);
        due("first and last, the same CELL", named(room("0 39 1 2 3 0."), "aeioua 0").ways(0), 1);
        due("six of one", named(room("5 5 5 5 5 5."), "aaaaaa 0").ways(0), 1);
    }

    /** Terms 4: "unlike SIGNS have unlike ones;" */
    void unlikeCellsForUnlikeSigns() {
        due("within a ROW", named(room("1 2."), "kaka 0").ways(0), 0);
        GridRoom room = named(room("0.", "39. 0."), "ka 0", "ka 1");
        due("across NAMES", room.ways(0), 1);
        due("0 is ka", room.way(0, 0, 1), 1);
        room.holds(0, 39, 0, 1);
        due("when they are ONE", room.ways(0), 2);
    }

    /** Terms 4: "of two SIGNS that have some: of one CLASS they have the same consonant, or vowel (none is one, too)," */
    void cellsByClass() {
        GridRoom room = named(room("1 2."), "kaku 0");
        room.share(CONSONANT, 1, 2, true);
        due("the same consonant", room.ways(0), 1);
        room.share(VOWEL, 1, 2, true);
        due("not the same vowel", room.ways(0), 0);
        GridRoom far = named(room("1 2."), "kata 0");
        far.share(CONSONANT, 1, 39, true);
        due("39 has none", far.ways(0), 1);
        far.share(CONSONANT, 39, 2, true);
        due("of one CLASS by way of 39", far.ways(0), 0);
        GridRoom none = named(room("1 2."), "ae 0");
        none.share(CONSONANT, 1, 2, true);
        due("none and none are the same", none.ways(0), 1);
        GridRoom some = named(room("1 2."), "aka 0");
        some.share(CONSONANT, 1, 2, true);
        due("none and k are not", some.ways(0), 0);
    }

    /** Terms 4: "PARTED ones unlike ones." */
    void cellsOfPartedSigns() {
        GridRoom room = named(room("1 2."), "kaku 0");
        room.share(VOWEL, 2, 1, false);
        due("unlike vowels", room.ways(0), 1);
        room.share(CONSONANT, 2, 1, false);
        due("like consonants", room.ways(0), 0);
        GridRoom none = named(room("1 2."), "ae 0");
        none.share(CONSONANT, 1, 2, false);
        due("none and none are no unlike ones", none.ways(0), 0);
        GridRoom some = named(room("1 2."), "ate 0");
        some.share(CONSONANT, 1, 2, false);
        due("none and t are", some.ways(0), 1);
        GridRoom apart = named(room("1 2."), "kaku 0");
        apart.share(CONSONANT, 1, 39, false);
        apart.share(CONSONANT, 39, 2, true);
        due("PARTED from another of the CLASS that has no CELL", apart.ways(0), 1);
    }

    /** Terms 4: "(A place that can't be read tells nothing.)" */
    void unreadPlacesTellNothing() {
        GridRoom room = named(room("? 1. ? ?.", "? 2."), "kaku 0", "kata 1");
        due("ka is no SIGN's", room.inGrid(0, KA), NONE);
        due("both", room.ways(0), 2);
        due("2 is forced", room.forced(0, 2), TA);
        due("1 has a CELL in the first", room.given(0, 0, 1), KU);
        due("and none in the second", room.given(0, 1, 1), NONE);
    }

    /** Terms 4: "WAYS are numbered from 0 on, by the ROWS of the first NAME, then the next, and so on." */
    void numbersOfWays() {
        GridRoom room = named(room("1. 2 2. 3. 4.", "5. 6."), "ka 0", "ku 1", "ta 0");
        int[][] due = {{0, 0, 2}, {0, 0, 3}, {0, 1, 2}, {0, 1, 3}, {2, 0, 0}, {2, 0, 3}, {2, 1, 0}, {2, 1, 3}, {3, 0, 0},
            {3, 0, 2}, {3, 1, 0}, {3, 1, 2}};
        due("twelve", room.ways(0), due.length);
        for (int k = 0; k < due.length; k++) {
            for (int name = 0; name < 3; name++) {
                due("WAY " + k + " of NAME " + name, room.way(0, k, name), due[k][name]);
            }
        }
        due("none ahead", room.way(0, -1, 0), NONE);
        due("none behind", room.way(0, due.length, 0), NONE);
    }

    // ---- what follows

    /** Terms 4: "A SIGN is FORCED, if it has the same CELL in all WAYS (and there is one)." */
    void forcedSigns() {
        GridRoom room = named(room("1 2. 1 3. 1 2."), "kaku 0");
        due("the same in all", room.forced(0, 1), KA);
        due("in two of three", room.forced(0, 2), NONE);
        due("in one of three", room.forced(0, 3), NONE);
        due("in none", room.forced(0, 4), NONE);
        GridRoom swapped = named(room("1 2. 2 1."), "kaku 0");
        due("some CELL in all, but not the same", swapped.forced(0, 1), NONE);
        due("no WAY", named(room("1 1."), "kaku 0").forced(0, 1), NONE);
        due("one WAY without NAMES", room("1.").forced(0, 1), NONE);
        due("CELL 0", named(room("1."), "a 0").forced(0, 1), 0);
    }

    /** Terms 4: "A WORD of a TABLET as it READS: SIGN by SIGN, if it is FORCED its consonant (if any) and vowel as letters, else ? ." */
    void wordsAsTheyRead() {
        GridRoom room = named(room("1 2 3. 4 2 3.", "3 1 2 ? 9 2. 9. ?."), "bazui 0");
        due("the first NAME's own ROW", room.reads(0, 0, 0), 4);
        due("1 could be either", out(room), "?zui");
        due("six places", room.reads(0, 1, 0), 8);
        due("no consonant for i", out(room), "i?zu??zu");
        due("a SIGN without a CELL", room.reads(0, 1, 1), 1);
        due("is ?", out(room), "?");
        due("one that can't be read", room.reads(0, 1, 2), 1);
        due("is ? as well", out(room), "?");
        GridRoom most = named(room("0 1 2 3 4 39."), "bcdfzyu 0");
        due("at most twelve bytes", most.reads(0, 0, 0), 12);
        due("six CELLS", out(most), "bucudufuzuyu");
        GridRoom least = named(room("1. 1 1 1 1 1 1."), "a 0");
        due("a vowel alone", least.reads(0, 0, 0), 1);
        due("six vowels", least.reads(0, 0, 1), 6);
        due("six vowels", out(least), "aaaaaa");
        GridRoom none = named(room("1 1."), "kaku 0");
        due("no WAY", none.reads(0, 0, 0), 2);
        due("no WAY", out(none), "??");
    }

    /** Terms 4: "SETTLING: of all SIGNS the one for which most WAYS that agree about it (on its CELL, or that it has none) are fewest; of like ones the least SIGN." */
    void settling() {
        GridRoom empty = new GridRoom();
        due("one WAY: the least SIGN of all", empty.settles(0, 0), 0);
        due("all agree", empty.settles(0, 1), 1);
        GridRoom room = named(room("7 8. 8 9. 9 7."), "kaku 0");
        due("one CELL each, and none once: the least", room.settles(0, 0), 7);
        due("one agrees", room.settles(0, 1), 1);
        GridRoom unlike = named(room("5 39. 6 39. 6 38. 6 37."), "kaku 0");
        // 5: ka, none three times; 6: none, ka three times; 39: ku twice, none twice; 38, 37: none three times
        due("the greatest SIGN", unlike.settles(0, 0), 39);
        due("two agree", unlike.settles(0, 1), 2);
        GridRoom without = named(room("5 1. 6 1. 7 1."), "kaku 0");
        due("that it has none: twice each, the least", without.settles(0, 0), 5);
        due("two agree that it has none", without.settles(0, 1), 2);
        GridRoom all = named(room("1 2."), "kaku 0");
        due("all agree about all", all.settles(0, 0), 0);
        for (int s = 0; s < 40; s++) {
            GridRoom one = named(room(s + ". ?."), "a 0");
            due("CELL 0 or none: SIGN " + s, one.settles(0, 0), s);
            due("one agrees", one.settles(0, 1), 1);
        }
        due("no WAY", named(room("1 1."), "kaku 0").settles(0, 0), NONE);
    }

    /** Terms 4: "A new NAME WOULD leave so many WAYS, with it told beside the others." */
    void wouldLeave() {
        GridRoom room = named(room("1 2. 3 4.", "1. 3. 4. 9."), "kaku 0");
        due("ka with either", would(room, "ka", 1), 2);
        due("ku with the second", would(room, "ku", 1), 1);
        due("ta", would(room, "ta", 1), 5);
        due("of a TABLET that has a NAME: the other ROW", would(room, "tatu", 0), 2);
        due("none of its length", would(room, "tatutu", 0), 0);
        due("no CELLS", would(room, "k", 0), 0);
        due("it was not told", room.count(4), 1);
        due("as many as ever", room.ways(0), 2);
        due("told indeed", name(room, "ta", 1), 1);
        due("as it would", room.ways(0), 5);
        GridRoom bare = room("1. 2.");
        due("beside no others", would(bare, "ka", 0), 2);
        GridRoom none = named(room("1 1. 2."), "kaku 0");
        due("beside others without a WAY", would(none, "ka", 0), 0);
        String eight = "?.?.?.?.?.?.?.?.";
        GridRoom full = named(room(eight, "1."), "ka 0", "ke 0", "ki 0", "ko 0", "ku 0", "a 0");
        due("a 7th", would(full, "ta", 0), 8 * 7 * 6 * 5 * 4 * 3 * 2);
    }

    /** Terms 4: "FITS of a NAME: how many ROWS of all TABLETS that COUNT it might be: with its CELLS beside those of some WAY all agrees still (that ROW is none of the WAY's own)." */
    void fitting() {
        GridRoom room = named(room("1 2. 3 4.", "1. 3. 4. 9. 9."), "kaku 0");
        due("beside some WAY: 1, 3", fits(room, "ka"), 2);
        due("4", fits(room, "ku"), 1);
        due("1, 3, 4, and 9 twice", fits(room, "ta"), 5);
        due("beside 3 4 the other one", fits(room, "tatu"), 2);
        due("its own ROW is none", fits(room, "kaku"), 0);
        due("no CELLS", fits(room, "k"), 0);
        due("none of its length", fits(room, "kakaka"), 0);
        tablet(room, "3 4. ? ?.");
        due("but the same in another TABLET is one", fits(room, "kaku"), 2);
        room.day(1);
        room.away(0, 2);
        due("of TABLETS that COUNT", fits(room, "kaku"), 0);
        tape(room, "kaku");
        due("as known on the DAY before", room.fits(0), 2);
        GridRoom bare = room("1 2. 1 1.", "3 4.");
        due("beside the WAY without NAMES", fits(bare, "kaku"), 2);
        due("no WAY", fits(named(room("1 1. 2 3."), "kaku 0", "ka 0"), "kaku"), 0);
        GridRoom classes = room("1 2. 3 4. 5 6.");
        classes.share(VOWEL, 1, 2, true);
        classes.share(CONSONANT, 3, 4, false);
        due("its own CELLS agree by CLASS and PARTED", fits(classes, "kaku"), 1);
        String all = "? ? ? ? ? ?.".repeat(8);
        GridRoom full = new GridRoom();
        for (int t = 0; t < 24; t++) {
            tablet(full, all);
        }
        due("all ROWS there can be", fits(full, "aeioua"), 192);
    }

    /** Terms 4: "DOUBT: the fewest NAMES (of those that COUNT, whose TABLET does) that are to be left out so that there is a WAY; of several such sets the one that is least as bits." */
    void doubting() {
        GridRoom room = named(room("1.", "1.", "1."), "ka 0", "ku 1", "ta 2");
        due("two of three", room.doubt(0, 0), 2);
        due("the least as bits", room.doubt(0, 1), 0b011);
        room.day(1);
        room.away(2, 0);
        due("one of two that COUNT", room.doubt(1, 0), 1);
        due("the least as bits", room.doubt(1, 1), 0b010);
        room.day(1);
        room.away(0, 1);
        due("whose TABLETS do", room.doubt(2, 0), 0);
        due("whose TABLETS do", room.doubt(2, 1), 0);
        due("on DAY 0 as ever", room.doubt(0, 1), 0b011);
        GridRoom fewest = named(room("1.", "1.", "1."), "ka 0", "ka 1", "ku 2");
        due("fewest ahead of least", fewest.doubt(0, 1), 0b100);
        GridRoom all = named(room("1."), "b 0", "c 0", "d 0", "f 0", "g 0", "h 0");
        due("all six", all.doubt(0, 0), 6);
        due("all six", all.doubt(0, 1), 0b111111);
        GridRoom last = named(room("1.2.3.4.5."), "ka 0", "ke 0", "ki 0", "ko 0", "ku 0", "k 0");
        due("the last of six", last.doubt(0, 1), 0b100000);
        due("no NAMES", room("1.").doubt(0, 0), 0);
        due("no NAMES", room("1.").doubt(0, 1), 0);
    }

    /** Terms 4: "COULD BE: CELLS that a SIGN has in some WAY, the least first." */
    void couldBe() {
        GridRoom room = named(room("3 1. 1 2. 1 3. ? ?."), "zuka 0");
        due("ka in one", room.could(0, 1, 0, 0), KA);
        due("ka in one", room.could(0, 1, 0, 1), 1);
        due("zu in two", room.could(0, 1, 1, 0), 134);
        due("zu in two", room.could(0, 1, 1, 1), 2);
        due("no third", room.could(0, 1, 2, 0), NONE);
        due("none", room.could(0, 9, 0, 0), NONE);
        GridRoom cells = named(room("7 1 2 3 4 5. 1 7 2 3 4 5. 1 2 7 3 4 5. 1 2 3 7 4 5. 1 2 3 4 7 5. 1 2 3 4 5 7."),
                "uoieaba 0");
        int[] due = {0, 1, 2, 3, 4, 10};
        for (int i = 0; i < due.length; i++) {
            due("CELL " + i, cells.could(0, 7, i, 0), due[i]);
            due("in one WAY", cells.could(0, 7, i, 1), 1);
        }
        due("no seventh", cells.could(0, 7, 6, 0), NONE);
        GridRoom next = named(room("1 2. 39 38."), "kaa 0");
        due("no CELL of the next SIGN's", next.could(0, 1, 1, 0), NONE);
        due("nor behind the last SIGN", next.could(0, 39, 1, 0), NONE);
        due("no WAY", named(room("1 1."), "kaku 0").could(0, 1, 0, 0), NONE);
    }

    /** Terms 4: "THE GRID: of a CELL the SIGN that has it in all WAYS." */
    void theGrid() {
        GridRoom room = named(room("39 2. 39 3."), "azu 0");
        due("CELL 0", room.inGrid(0, 0), 39);
        due("of unlike SIGNS in unlike WAYS", room.inGrid(0, 134), NONE);
        room.holds(0, 2, 3, 1);
        due("when they are ONE", room.inGrid(0, 134), 2);
        due("no WAY", named(room("1 1."), "kaku 0").inGrid(0, KA), NONE);
        due("one WAY without NAMES", room("1.").inGrid(0, KA), NONE);
    }

    /** Terms 4: "WHERE a new NAME tells most: of TABLETS that COUNT the one for which it WOULD leave the fewest WAYS, but one at least; of like ones the least." */
    void whereItTellsMost() {
        GridRoom room = named(room("1 2. 3 4.", "5. 6. 7.", "8. 9.", "1.", "8 8 8."), "kaku 0");
        // TABLET 1 leaves 6, 2 leaves 4, 3 leaves 1 (beside 3 4), 0 and 4 none
        due("one at least", where(room, "ta"), 3);
        tablet(room, "3.");
        due("of like ones the least", where(room, "ta"), 3);
        room.day(1);
        room.away(0, 3);
        due("of TABLETS that COUNT", where(room, "ta"), 5);
        tape(room, "ta");
        due("as known on the DAY before", room.where(0), 3);
        due("none leaves one", where(room, "tutatu"), NONE);
        due("no CELLS", where(room, "k"), NONE);
        due("none of its length", where(room, "aeio"), NONE);
        GridRoom last = new GridRoom();
        for (int t = 0; t < 24; t++) {
            tablet(last, t < 23 ? "1. 2." : "1.");
        }
        due("the last of 24", where(last, "ka"), 23);
        due("no TABLETS", where(new GridRoom(), "ka"), NONE);
    }

    /** Terms 4: "HOW OFTEN a SIGN is, of all WORDS of TABLETS that COUNT (as often as they are there): first, last, by itself (then neither), or within." */
    void howOften() {
        GridRoom room = room("1 1 1 1 1 1. 1 1 1 1 1 1. 1. 1 1. ? 1. 1 ?. ? 1 ?.");
        int[] due = {4, 4, 1, 9, 18};
        for (int what = 0; what < due.length; what++) {
            due("what " + what, room.often(1, 0, what), due[what]);
        }
        room.day(1);
        tablet(room, "1. 1.");
        room.day(1);
        room.away(0, 0);
        int[][] alone = {{1, 18}, {3, 20}, {2, 2}};
        for (int known = 0; known < alone.length; known++) {
            due("by itself on DAY " + known, room.often(1, known, 2), alone[known][0]);
            due("in all on DAY " + known, room.often(1, known, 4), alone[known][1]);
        }
        due("nowhere", room.often(2, 0, 4), 0);
    }

    /** Terms 4: "RANK: SIGNS that are there at all by how often first out of how often in all (the greatest first), of like ones by numbers." */
    void ranks() {
        // 39: 1 of 1; 8: 2 of 3; 0, 5: 1 of 2; 7: 1 of 3; 2 and 3: none
        GridRoom room = room("39 8. 8 5. 8 0. 0 2. 5 7. 7 7. 2. 3.");
        int[] due = {39, 8, 0, 5, 7, 2, 3, NONE};
        for (int i = 0; i < due.length; i++) {
            due("RANK " + i, room.rank(0, i), due[i]);
        }
        due("none in an empty room", new GridRoom().rank(0, 0), NONE);
        due("none can be read", room("? ?.").rank(0, 0), NONE);
        GridRoom all = new GridRoom();
        for (int t = 0; t < 5; t++) {
            StringBuilder text = new StringBuilder();
            for (int s = 8 * t; s < 8 * t + 8; s++) {
                text.append(39 - s).append('.');
            }
            tablet(all, text.toString());
        }
        for (int i = 0; i < 40; i++) {
            due("all 40, by numbers " + i, all.rank(0, i), i);
        }
        due("none behind", all.rank(0, 40), NONE);
    }
}
