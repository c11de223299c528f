/** Sentences of promises 14 (pairs) to 25 (forced). */
public final class PromisesTwoEdgesTest extends Edges {
    private static final int KA = cellOf("ka");
    private static final int KU = cellOf("ku");

    public static void main(String[] args) throws Exception {
        new PromisesTwoEdgesTest().runAll();
    }

    /** The room with some of everything, with a CLASH of kind 1 of three LINKS. */
    private static void clashing(GridRoom room) {
        room.share(CONSONANT, 20, 21, true);
        room.share(CONSONANT, 21, 22, true);
        room.share(VOWEL, 20, 22, true);
    }

    // ---- 14: pairs

    /** Promise 14: "How many pairs of ROWS tell that two SIGNS (as they STAND) SHARE by CLAUSE c of RULES as known" */
    void pairsOfRows() {
        GridRoom room = room("1 2 0. 1 2 39. 3 2 0. 3 2 39. 4 2 0.");
        room.day(1);
        rules(room, "drop k; vowel last; vowel first count 9;");
        room.day(1);
        rules(room, "vowel 3;" + "drop k;".repeat(10) + "vowel first;");
        due("no RULES on DAY 0", room.pairs(0, 0, 39, 0), NONE);
        due("the second of DAY 1", room.pairs(1, 0, 39, 1), 2);
        due("in either order", room.pairs(1, 39, 0, 1), 2);
        due("fewer than count are told, too", room.pairs(2, 1, 3, 1), 2);
        due("1 and 4", room.pairs(2, 1, 4, 1), 1);
        due("the first of DAY 2", room.pairs(0, 0, 39, 2), 2);
        due("the twelfth of DAY 2", room.pairs(11, 1, 3, 2), 2);
        due("none", room.pairs(0, 1, 3, 2), 0);
        room.holds(0, 39, 38, 1);
        due("39 STANDS as 38", room.pairs(0, 0, 38, 2), 2);
        due("39 STANDS as 38", room.pairs(0, 0, 39, 2), 2);
        room.holds(0, 3, 1, 1);
        due("3 STANDS as 1: one ROW fewer", room.pairs(0, 0, 39, 2), 1);
    }

    /** Promise 14: "(0 for a CLAUSE that is of no SORT, and if they are ONE)." */
    void pairsThatAreZero() {
        GridRoom room = ruled(room("1 2 3. 1 2 4."), "write k as t; drop k; vowel last;");
        due("of write", room.pairs(0, 3, 4, 0), 0);
        due("of drop", room.pairs(1, 3, 4, 0), 0);
        due("of vowel", room.pairs(2, 3, 4, 0), 1);
        due("a SIGN with itself", room.pairs(2, 3, 3, 0), 0);
        room.holds(0, 3, 4, 1);
        due("ONE", room.pairs(2, 3, 4, 0), 0);
        room.holds(0, 4, 9, 1);
        due("ONE by another", room.pairs(2, 9, 3, 0), 0);
    }

    /** Promise 14: "NONE: no such ones." */
    void pairsRefused() {
        refusedFor("CLAUSE", new int[] {-1, 4, 12, MIN, MAX}, (r, c) -> r.pairs(c, 3, 4, 3), NONE);
        refusedFor("first SIGN", NO_SIGNS, (r, s) -> r.pairs(0, s, 4, 3), NONE);
        refusedFor("second SIGN", NO_SIGNS, (r, s) -> r.pairs(0, 3, s, 3), NONE);
        refusedFor("both SIGNS", NO_SIGNS, (r, s) -> r.pairs(0, s, s, 3), NONE);
        refusedForDays("pairs", (r, known) -> r.pairs(0, 3, 4, known));
        due("the last CLAUSE", someRoom().pairs(3, 3, 4, 3), 0);
        GridRoom room = ruled(room("1 2 3. 1 2 4."), "vowel last;".repeat(12));
        due("the twelfth", room.pairs(11, 3, 4, 0), 1);
        due("no thirteenth", room.pairs(12, 3, 4, 0), NONE);
        ruled(room, "");
        due("none of an empty text", room.pairs(0, 3, 4, 0), NONE);
        due("no CLAUSE, though they are ONE", room.pairs(0, 3, 3, 0), NONE);
    }

    // ---- 15: links

    /** Promise 15: "How many LINKS of a SORT." */
    void howManyLinks() {
        GridRoom room = new GridRoom();
        due("none yet", room.links(CONSONANT, 0), 0);
        room.share(CONSONANT, 0, 39, true);
        room.share(CONSONANT, 39, 38, true);
        room.share(VOWEL, 0, 39, true);
        due("two", room.links(CONSONANT, 0), 2);
        due("one", room.links(VOWEL, 0), 1);
        due("some room", someRoom().links(CONSONANT, 3), 1);
        due("some room on DAY 0", someRoom().links(CONSONANT, 0), 2);
        // All 40 SIGNS with one another, as many as there can be: 5 TABLETS of 8 ROWS tell of them all.
        GridRoom all = new GridRoom();
        for (int t = 0; t < 5; t++) {
            StringBuilder text = new StringBuilder();
            for (int r = 0; r < 8; r++) {
                text.append("0 0 ").append(8 * t + r).append('.');
            }
            tablet(all, text.toString());
        }
        rules(all, "vowel last;");
        due("40 times 39 halves", all.links(VOWEL, 0), 780);
        due("one CLASS", all.classOf(VOWEL, 39, 0), 0);
    }

    /** Promise 15: "NONE: no such ones." */
    void linksRefused() {
        refusedFor("SORT", NO_SORTS, (r, sort) -> r.links(sort, 3), NONE);
        refusedForDays("links", (r, known) -> r.links(VOWEL, known));
    }

    // ---- 16: classOf

    /** Promise 16: "CLASS of a SIGN." */
    void classOfASign() {
        GridRoom room = new GridRoom();
        due("by itself", room.classOf(CONSONANT, 0, 0), 0);
        due("by itself", room.classOf(VOWEL, 39, 0), 39);
        room.share(VOWEL, 39, 38, true);
        due("of two", room.classOf(VOWEL, 39, 0), 38);
        due("of the other SORT", room.classOf(CONSONANT, 39, 0), 39);
        room.holds(0, 38, 5, 1);
        due("as it STANDS", room.classOf(VOWEL, 39, 0), 5);
        due("of one that STANDS as another", room.classOf(VOWEL, 38, 0), 5);
        due("of the other SORT, as it STANDS", room.classOf(CONSONANT, 38, 0), 5);
    }

    /** Promise 16: "NONE: no such ones." */
    void classOfRefused() {
        refusedFor("SORT", NO_SORTS, (r, sort) -> r.classOf(sort, 3, 3), NONE);
        refusedFor("SIGN", NO_SIGNS, (r, s) -> r.classOf(VOWEL, s, 3), NONE);
        refusedForDays("classOf", (r, known) -> r.classOf(CONSONANT, 4, known));
    }

    // ---- 17: clash

    /** Promise 17: "THE CLASH: what 0 a, 1 b, 2 its kind, 3 how many LINKS its REASON has." */
    void theClash() {
        GridRoom room = new GridRoom();
        clashing(room);
        int[] due = {20, 22, 1, 3};
        for (int what = 0; what < due.length; what++) {
            due("what " + what, room.clash(0, what), due[what]);
        }
        room.day(1);
        room.share(VOWEL, 39, 0, true);
        room.share(VOWEL, 0, 39, false);
        int[] then = {0, 39, 2, 1};
        for (int what = 0; what < then.length; what++) {
            due("on DAY 1 what " + what, room.clash(1, what), then[what]);
            due("on DAY 0 what " + what, room.clash(0, what), due[what]);
        }
        // The longest REASON that there can be: all 40 SIGNS of one way of one SORT, and one LINK back.
        GridRoom longest = new GridRoom();
        for (int s = 0; s < 39; s++) {
            longest.share(CONSONANT, s, s + 1, true);
        }
        longest.share(VOWEL, 39, 0, true);
        due("0", longest.clash(0, 0), 0);
        due("39", longest.clash(0, 1), 39);
        due("40 LINKS", longest.clash(0, 3), 40);
    }

    /** Promise 17: "NONE: there is none (such)." */
    void noClash() {
        for (int what = 0; what < 4; what++) {
            int one = what;
            refused("none, what " + what, r -> r.clash(3, one), NONE);
            due("none in a new room, what " + what, new GridRoom().clash(0, what), NONE);
        }
        for (int what : new int[] {-1, 4, MIN, MAX}) {
            refused("what " + what, PromisesTwoEdgesTest::clashing, r -> r.clash(3, what), NONE);
        }
        for (int known : new int[] {-1, 0, 2, 4, MIN, MAX}) {
            refused("on DAY " + known, PromisesTwoEdgesTest::clashing, r -> r.clash(known, 0), NONE);
        }
    }

    // ---- 18: reason

    /** Promise 18: "Of LINK i of its REASON what 0 the SORT, 1 from which SIGN, 2 to which." */
    void linksOfTheReason() {
        GridRoom room = new GridRoom();
        clashing(room);
        int[][] due = {{0, 20, 21}, {0, 21, 22}, {1, 20, 22}};
        for (int i = 0; i < due.length; i++) {
            for (int what = 0; what < 3; what++) {
                due("LINK " + i + " what " + what, room.reason(0, i, what), due[i][what]);
            }
        }
        GridRoom longest = new GridRoom();
        for (int s = 0; s < 39; s++) {
            longest.share(VOWEL, s, s + 1, true);
        }
        longest.share(CONSONANT, 39, 0, true);
        due("the first of 40", longest.reason(0, 0, 2), 39);
        due("the last of 40", longest.reason(0, 39, 0), 1);
        due("the last of 40", longest.reason(0, 39, 1), 38);
        due("the last of 40", longest.reason(0, 39, 2), 39);
        due("no 41st", longest.reason(0, 40, 0), NONE);
    }

    /** Promise 18: "NONE: there is none such." */
    void noSuchLinkOfTheReason() {
        for (int what = 0; what < 3; what++) {
            int one = what;
            refused("no CLASH", r -> r.reason(3, 0, one), NONE);
        }
        for (int i : new int[] {-1, 3, 4, 80, MIN, MAX}) {
            refused("LINK " + i, PromisesTwoEdgesTest::clashing, r -> r.reason(3, i, 0), NONE);
        }
        for (int what : new int[] {-1, 3, MIN, MAX}) {
            refused("what " + what, PromisesTwoEdgesTest::clashing, r -> r.reason(3, 0, what), NONE);
        }
        for (int known : new int[] {-1, 0, 2, 4, MIN, MAX}) {
            refused("on DAY " + known, PromisesTwoEdgesTest::clashing, r -> r.reason(known, 0, 0), NONE);
        }
    }

    // ---- 19: name

    /** Promise 19: "The TAPE (empty then) is a NAME that is some WORD of a TABLET: its number." */
    void tapeIsAName() {
        GridRoom room = room("1. 2.", "3. 4. 5.");
        tape(room, "ka");
        due("the first", room.name(1), 0);
        due("the TAPE is empty", room.count(6), 0);
        due("a WORD of TABLET 1", room.ways(0), 3);
        tape(room, "ku");
        due("the second", room.name(0), 1);
        due("a WORD of TABLET 0", room.ways(0), 6);
        room.away(0, 0);
        due("of a TABLET that was put away", name(room, "ta", 0), 2);
        due("which takes no part", room.ways(0), 3);
        due("three", room.count(4), 3);
    }

    /** Promise 19: "NONE: no such TABLET, not 1 to 8 small letters, six were told (the TAPE stays)." */
    void nameRefused() {
        refusedFor("TABLET", NO_TABLETS, (r, t) -> r.name(t), NONE);
        String[] none = {"", "K", "ka ", " ka", "k1", "kakukakuk", "1 2.", "ka\n", "k`", "k{", "kakuka\0", "aeiouaeiouaeiou"};
        for (String text : none) {
            refused("on the TAPE " + text, r -> tape(r, text), r -> r.name(0), NONE);
        }
        refused("the seventh", r -> {
            for (int i = 2; i < 6; i++) {
                must(name(r, "ka", 1) == i, "six");
            }
            tape(r, "ku");
        }, r -> r.name(0), NONE);
        refused("the seventh, one was put away", r -> {
            for (int i = 2; i < 6; i++) {
                must(name(r, "ka", 1) == i, "six");
            }
            r.away(2, 5);
            tape(r, "ku");
        }, r -> r.name(0), NONE);
        GridRoom room = new GridRoom();
        tape(room, "ka");
        due("no TABLET yet", room.name(0), NONE);
        due("the TAPE stays", room.count(6), 2);
        tablet(room, "1.");
        due("the eight last letters", name(room, "zyxwvutz", 0), 0);
    }

    // ---- 20: spelled

    /** Promise 20: "How many CELLS a NAME has." */
    void howManyCells() {
        GridRoom room = named(room("1."), "k 0", "a 0", "kak 0", "aeiouaei 0", "bcdfghja 0");
        int[] due = {0, 1, 2, 8, 7};
        for (int name = 0; name < due.length; name++) {
            due("NAME " + name, room.spelled(name, 0), due[name]);
        }
        room.day(1);
        rules(room, "drop k;");
        due("by RULES of DAY 1", room.spelled(2, 1), 1);
        due("without any on DAY 0", room.spelled(2, 0), 2);
        room.away(2, 2);
        due("though put away", room.spelled(2, 1), 1);
    }

    /** Promise 20: "NONE: no such ones." */
    void spelledRefused() {
        refusedFor("NAME", NO_NAMES, (r, name) -> r.spelled(name, 3), NONE);
        refusedForDays("spelled", (r, known) -> r.spelled(1, known));
        due("none yet", new GridRoom().spelled(0, 0), NONE);
    }

    // ---- 21: cell

    /** Promise 21: "CELL i of a NAME." */
    void cellsOfAName() {
        GridRoom room = named(room("1."), "azu 0", "aeiouaei 0");
        due("the least", room.cell(0, 0, 0), 0);
        due("the greatest", room.cell(0, 1, 0), 134);
        due("the eighth", room.cell(1, 7, 0), 2);
        room.day(1);
        rules(room, "write z as b; write u as a;");
        due("by RULES of DAY 1", room.cell(0, 1, 1), 10);
        due("without any on DAY 0", room.cell(0, 1, 0), 134);
    }

    /** Promise 21: "NONE: there is none such." */
    void cellRefused() {
        refusedFor("NAME", NO_NAMES, (r, name) -> r.cell(name, 0, 3), NONE);
        refusedFor("CELL", new int[] {-1, 3, 8, MIN, MAX}, (r, i) -> r.cell(0, i, 3), NONE);
        refusedForDays("cell", (r, known) -> r.cell(1, 0, known));
        GridRoom room = named(room("1."), "aeiouaei 0", "k 0", "ka 0");
        due("no ninth", room.cell(0, 8, 0), NONE);
        due("none of a NAME without", room.cell(1, 0, 0), NONE);
        due("no CELL of another NAME", room.cell(2, 1, 0), NONE);
    }

    // ---- 22: ways

    /** Promise 22: "How many WAYS (1, if no NAME COUNTS)." */
    void howManyWays() {
        due("a new room", new GridRoom().ways(0), 1);
        GridRoom room = room("1. 2. 3.");
        due("no NAME", room.ways(0), 1);
        named(room, "ka 0");
        due("a NAME", room.ways(0), 3);
        room.day(1);
        room.away(2, 0);
        due("no NAME COUNTS", room.ways(1), 1);
        due("on DAY 0", room.ways(0), 3);
        room.day(1);
        named(room, "ka 0");
        room.away(0, 0);
        due("a NAME whose TABLET doesn't", room.ways(2), 1);
        due("none", named(room("1 1."), "kaku 0").ways(0), 0);
        String all = "?.?.?.?.?.?.?.?.";
        GridRoom most = named(room(all, all, all, all, all, all), "a 0", "e 1", "i 2", "o 3", "u 4", "ka 5");
        due("as many as there can be", most.ways(0), 262144);
    }

    /** Promise 22: "NONE: no such DAY." */
    void waysRefused() {
        refusedForDays("ways", (r, known) -> r.ways(known));
        due("none of a new room", new GridRoom().ways(1), NONE);
    }

    // ---- 23: way

    /** Promise 23: "Which ROW a NAME is in a WAY." */
    void rowsInAWay() {
        GridRoom room = named(room("1 1. 2. 3. 4 4. 5 5. 6 6. 7 7. 8.", "9."), "ka 0", "ku 1");
        int[] due = {1, 2, 7};
        for (int k = 0; k < due.length; k++) {
            due("WAY " + k, room.way(0, k, 0), due[k]);
            due("WAY " + k + " of the other", room.way(0, k, 1), 0);
        }
        String all = "?.?.?.?.?.?.?.?.";
        GridRoom most = named(room(all, all, all, all, all, all), "a 0", "e 1", "i 2", "o 3", "u 4", "ka 5");
        for (int name = 0; name < 6; name++) {
            due("the last WAY of all", most.way(0, 262143, name), 7);
            due("the first", most.way(0, 0, name), 0);
        }
        due("the last but one", most.way(0, 262142, 5), 6);
        due("none beyond", most.way(0, 262144, 0), NONE);
    }

    /** Promise 23: "NONE: no such WAY, NAME, or it doesn't COUNT." */
    void wayRefused() {
        int ways = someRoom().ways(3);
        due("WAYS there are", ways > 1, true);
        due("the last", someRoom().way(3, ways - 1, 0) != NONE, true);
        refusedFor("WAY", new int[] {-1, ways, ways + 1, MIN, MAX}, (r, k) -> r.way(3, k, 0), NONE);
        refusedFor("NAME", NO_NAMES, (r, name) -> r.way(3, 0, name), NONE);
        refusedForDays("way", (r, known) -> r.way(known, 0, 0));
        refused("it came later", r -> r.way(1, 0, 0), NONE);
        refused("it was put away", r -> r.away(2, 1), r -> r.way(3, 0, 1), NONE);
        refused("its TABLET was put away", r -> r.away(0, 1), r -> r.way(3, 0, 1), NONE);
        due("no WAY at all", named(room("1 1."), "kaku 0").way(0, 0, 0), NONE);
        due("no NAME in the one WAY", room("1.").way(0, 0, 0), NONE);
    }

    // ---- 24: given

    /** Promise 24: "CELL of a SIGN (as it STANDS) in a WAY." */
    void cellInAWay() {
        GridRoom room = named(room("0 1. 39 0."), "akku 0", "azu 0");
        due("no ROW of three", room.ways(0), 0);
        room.away(2, 0);
        due("CELL 0", room.given(0, 0, 0), 0);
        due("CELL 134", room.given(0, 0, 1), 134);
        due("CELL 0 of SIGN 39", room.given(0, 1, 39), 0);
        due("CELL 134 of SIGN 0", room.given(0, 1, 0), 134);
        room.holds(0, 1, 20, 1);
        due("20 STANDS as 1", room.given(0, 0, 20), 134);
        room.holds(0, 39, 30, 1);
        due("39 STANDS as 30", room.given(0, 1, 39), 0);
        due("30 is what it STANDS as", room.given(0, 1, 30), 0);
    }

    /** Promise 24: "NONE: it has none, no such ones." */
    void givenRefused() {
        int ways = someRoom().ways(3);
        refusedFor("WAY", new int[] {-1, ways, MIN, MAX}, (r, k) -> r.given(3, k, 2), NONE);
        refusedFor("SIGN", NO_SIGNS, (r, s) -> r.given(3, 0, s), NONE);
        refusedForDays("given", (r, known) -> r.given(known, 0, 2));
        refusedFor("SIGN without", new int[] {0, 39, 5}, (r, s) -> r.given(3, 0, s), NONE);
        due("none in the one WAY without NAMES", room("1.").given(0, 0, 1), NONE);
        GridRoom room = named(room("1. 2."), "ka 0");
        due("it has one", room.given(0, 0, 1), KA);
        due("it has none", room.given(0, 0, 2), NONE);
        due("it has one then", room.given(0, 1, 2), KA);
        due("it has none then", room.given(0, 1, 1), NONE);
        due("no WAY at all", named(room("1 1."), "kaku 0").given(0, 0, 1), NONE);
    }

    // ---- 25: forced

    /** Promise 25: "CELL of a SIGN that is FORCED." */
    void cellThatIsForced() {
        GridRoom room = named(room("0 39 1. 0 39 2."), "azuku 0");
        due("CELL 0", room.forced(0, 0), 0);
        due("CELL 134", room.forced(0, 39), 134);
        due("1 is not", room.forced(0, 1), NONE);
        room.day(1);
        room.holds(0, 2, 1, 1);
        due("1 and 2 are ONE", room.forced(1, 1), KU);
        due("asked for 2", room.forced(1, 2), KU);
        due("not on DAY 0", room.forced(0, 2), NONE);
    }

    /** Promise 25: "NONE: it isn't, no such ones." */
    void forcedRefused() {
        refusedFor("SIGN", NO_SIGNS, (r, s) -> r.forced(3, s), NONE);
        refusedForDays("forced", (r, known) -> r.forced(known, 2));
        refusedFor("SIGN that isn't", new int[] {0, 1, 3, 39}, (r, s) -> r.forced(3, s), NONE);
        refused("no WAY", r -> named(r, "k 0"), r -> r.forced(3, 2), NONE);
    }
}
