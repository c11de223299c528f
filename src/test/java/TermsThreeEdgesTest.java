/** Sentences of "Terms", part 3: LINKS, CLASSES and CLASHES. */
public final class TermsThreeEdgesTest extends Edges {
    public static void main(String[] args) throws Exception {
        new TermsThreeEdgesTest().runAll();
    }

    private static void share(GridRoom room, int sort, int... signs) {
        for (int i = 1; i < signs.length; i++) {
            must(room.share(sort, signs[i - 1], signs[i], true) >= 0, "share");
        }
    }

    private static void part(GridRoom room, int sort, int a, int b) {
        must(room.share(sort, a, b, false) >= 0, "part");
    }

    /** THE CLASH on DAY 0: a, b, its kind, and the LINKS of its REASON, each told as SORT, from, to. */
    private void dueClash(GridRoom room, int a, int b, int kind, int[]... links) {
        due("a", room.clash(0, 0), a);
        due("b", room.clash(0, 1), b);
        due("kind", room.clash(0, 2), kind);
        due("LINKS", room.clash(0, 3), links.length);
        for (int i = 0; i < links.length; i++) {
            for (int what = 0; what < 3; what++) {
                due("LINK " + i + " what " + what, room.reason(0, i, what), links[i][what]);
            }
        }
        due("no LINK more", room.reason(0, links.length, 0), NONE);
    }

    private static int[] link(int sort, int from, int to) {
        return new int[] {sort, from, to};
    }

    /** Terms 3: "BY A CLAUSE of a SORT two unlike SIGNS SHARE," */
    void unlikeSignsShare() {
        GridRoom room = ruled(room("1 2 3. 1 2 4. 1 2 3."), "consonant last;");
        due("3 and 4", room.links(CONSONANT, 0), 1);
        due("3 and 4", room.classOf(CONSONANT, 4, 0), 3);
        int[][] pairs = {{0, 1}, {0, 2}, {1, 2}, {0, 39}, {38, 39}};
        for (int[] pair : pairs) {
            for (int least = 0; least < 40; least += 8) {
                theseTwoAlone(pair[0], pair[1], least);
            }
        }
        due("by no CLAUSE of vowel", room.links(VOWEL, 0), 0);
        due("a SIGN with itself", room.pairs(0, 3, 3, 0), 0);
        GridRoom like = ruled(room("1 2 3. 1 2 3."), "consonant last;");
        due("no unlike SIGNS", like.links(CONSONANT, 0), 0);
        GridRoom ends = ruled(room("1 2 0. 1 2 39."), "vowel last;");
        due("0 and 39", ends.classOf(VOWEL, 39, 0), 0);
    }

    private void theseTwoAlone(int a, int b, int least) {
        GridRoom room = ruled(room("5 5 " + a + ". 5 5 " + b + "."), "vowel last;");
        for (int low = least; low < least + 8; low++) {
            for (int high = low + 1; high < 40; high++) {
                due(a + " and " + b + " tell of " + low + " and " + high, room.pairs(0, low, high, 0), low == a && high == b ? 1 : 0);
            }
        }
    }

    /** Terms 3: "if there are count (1 without) or more unlike pairs of ROWS that tell so:" */
    void asManyPairsAsCount() {
        String tablet = "1 1 5. 1 1 6. 1 2 5. 1 2 6. 1 3 5. 1 3 6.";
        GridRoom room = ruled(room(tablet), "vowel last;");
        due("three pairs", room.pairs(0, 5, 6, 0), 3);
        due("without a count", room.links(VOWEL, 0), 1);
        rules(room, "vowel last count 3;");
        due("count 3", room.links(VOWEL, 0), 1);
        rules(room, "vowel last count 4;");
        due("count 4", room.links(VOWEL, 0), 0);
        rules(room, "vowel last count 99;");
        due("count 99", room.links(VOWEL, 0), 0);
        rules(room, "vowel last count 2;");
        due("count 2", room.links(VOWEL, 0), 1);
        GridRoom one = ruled(room("1 1 5. 1 1 6."), "vowel last;");
        due("one pair without a count", one.links(VOWEL, 0), 1);
        rules(one, "vowel last count 1;");
        due("one pair, count 1", one.links(VOWEL, 0), 1);
        rules(one, "vowel last count 2;");
        due("one pair, count 2", one.links(VOWEL, 0), 0);
        rules(one, "vowel last count 2;vowel 3 count 2;");
        due("two CLAUSES of one pair each", one.links(VOWEL, 0), 0);
    }

    /** Terms 3: "ROWS of all TABLETS that COUNT," */
    void rowsOfTabletsThatCount() {
        GridRoom room = ruled(room("1 2 3."), "vowel last;");
        room.day(1);
        tablet(room, "1 2 4.");
        room.day(1);
        room.away(0, 0);
        room.day(1);
        tablet(room, "1 2 5.");
        int[] links = {0, 1, 0, 1};
        for (int known = 0; known < links.length; known++) {
            due("on DAY " + known, room.links(VOWEL, known), links[known]);
        }
        due("3 and 4 on DAY 1", room.pairs(0, 3, 4, 1), 1);
        due("4 and 5 on DAY 3", room.pairs(0, 4, 5, 3), 1);
        due("no longer 3 and 4", room.pairs(0, 3, 4, 3), 0);
        // As many as there can be, all unlike: 24 times 8.
        GridRoom full = new GridRoom();
        for (int t = 0; t < 24; t++) {
            StringBuilder text = new StringBuilder();
            for (int r = 0; r < 8; r++) {
                text.append(t).append(" 0 ").append(30 + r).append('.');
            }
            tablet(full, text.toString());
        }
        rules(full, "vowel last count 24;vowel first count 8;vowel last count 25;");
        due("a pair of each TABLET", full.pairs(0, 30, 37, 0), 24);
        due("a pair of each ROW", full.pairs(1, 0, 23, 0), 8);
        due("8 times 7 and 24 times 23 halves", full.links(VOWEL, 0), 28 + 276);
    }

    /** Terms 3: "in which all can be read," */
    void rowsThatCanBeRead() {
        GridRoom room = ruled(room("1 ? 3. 1 ? 4.", "? 2 3. ? 2 4.", "1 2 3. 1 2 ?."), "vowel last;");
        due("none", room.links(VOWEL, 0), 0);
        due("none", room.pairs(0, 3, 4, 0), 0);
        tablet(room, "1 2 4.");
        due("one", room.pairs(0, 3, 4, 0), 1);
    }

    /** Terms 3: "each once however often it is there;" */
    void rowsOnce() {
        GridRoom room = ruled(room("1 2 3. 1 2 3. 1 2 4.", "1 2 4. 1 2 3."), "vowel last count 2;");
        due("one pair", room.pairs(0, 3, 4, 0), 1);
        due("too few", room.links(VOWEL, 0), 0);
        tablet(room, "9 2 3. 9 2 4.");
        due("two pairs", room.pairs(0, 3, 4, 0), 2);
        due("enough", room.links(VOWEL, 0), 1);
        room.holds(0, 9, 1, 1);
        due("once as they STAND", room.pairs(0, 3, 4, 0), 1);
        due("too few again", room.links(VOWEL, 0), 0);
    }

    /** Terms 3: "of the same length," */
    void rowsOfOneLength() {
        GridRoom room = ruled(room("1 2 3. 1 2 4 3. 1 2 3 4. 1 2.", "0 0 0. 0 0 0 1."), "vowel last length 2;vowel 3;");
        due("none by last", room.links(VOWEL, 0), 0);
        due("0 and 1", room.pairs(0, 0, 1, 0), 0);
        due("3 and 4", room.pairs(1, 3, 4, 0), 0);
    }

    /** Terms 3: "which is length (3 without) or more," */
    void rowsLongEnough() {
        String tablet = "1 2. 1 3. 1 1 4. 1 1 5. 1 1 1 6. 1 1 1 7.";
        GridRoom room = ruled(room(tablet, "1 1 1 1 1 8. 1 1 1 1 1 9."), "vowel last;");
        due("2 without", room.pairs(0, 2, 3, 0), 0);
        due("3 without", room.pairs(0, 4, 5, 0), 1);
        due("4 without", room.pairs(0, 6, 7, 0), 1);
        due("6 without", room.pairs(0, 8, 9, 0), 1);
        rules(room, "vowel last length 2;");
        due("2 of length 2", room.pairs(0, 2, 3, 0), 1);
        due("6 of length 2", room.pairs(0, 8, 9, 0), 1);
        rules(room, "vowel last length 4;");
        due("3 of length 4", room.pairs(0, 4, 5, 0), 0);
        due("4 of length 4", room.pairs(0, 6, 7, 0), 1);
        rules(room, "vowel last length 6;");
        due("4 of length 6", room.pairs(0, 6, 7, 0), 0);
        due("6 of length 6", room.pairs(0, 8, 9, 0), 1);
        GridRoom alone = ruled(room("1. 2."), "vowel first length 2;vowel last length 2;vowel 1 length 2;");
        due("1 is never enough", alone.links(VOWEL, 0), 0);
    }

    /** Terms 3: "and has that place (first, last, or N from 1 on);" */
    void rowsThatHaveThePlace() {
        GridRoom room = room("11 1 1 1 1 1. 12 1 1 1 1 1.", "1 1 1 1 1 13. 1 1 1 1 1 14.", "1 15 1. 1 16 1.", "1 1 17. 1 1 18.");
        ruled(room, "vowel first;vowel last;vowel 1;vowel 6;vowel 2;vowel 3;vowel 4;");
        int[][] due = {{1, 0, 1, 0, 0, 0, 0}, {0, 1, 0, 1, 0, 0, 0}, {0, 0, 0, 0, 1, 0, 0}, {0, 1, 0, 0, 0, 1, 0}};
        for (int pair = 0; pair < due.length; pair++) {
            for (int c = 0; c < 7; c++) {
                due("CLAUSE " + c + " of " + (11 + 2 * pair), room.pairs(c, 11 + 2 * pair, 12 + 2 * pair, 0), due[pair][c]);
            }
        }
        GridRoom two = ruled(room("1 2. 1 3."), "vowel 2 length 2;vowel 3 length 2;vowel last length 2;");
        due("2 of 2", two.pairs(0, 2, 3, 0), 1);
        due("3 of 2", two.pairs(1, 2, 3, 0), 0);
        due("last of 2", two.pairs(2, 2, 3, 0), 1);
    }

    /** Terms 3: "alike in all places but that one, where they have these two." */
    void rowsAlikeButForOnePlace() {
        GridRoom room = ruled(room("1 2 3. 4 2 5. 6 7 3. 1 2 3.", "8 2 3."), "vowel last;vowel first;vowel 2;");
        due("unlike in two places", room.pairs(0, 3, 5, 0), 0);
        due("unlike in two places", room.pairs(1, 1, 6, 0), 0);
        due("unlike in the first", room.pairs(1, 1, 8, 0), 1);
        due("unlike in the first, not in the last", room.pairs(0, 1, 8, 0), 0);
        due("unlike in the first, not in the second", room.pairs(2, 1, 8, 0), 0);
        due("one link", room.links(VOWEL, 0), 1);
        due("not other two", room.pairs(1, 1, 7, 0), 0);
        room.holds(0, 4, 1, 1);
        due("4 is 1: alike but for one place now", room.pairs(0, 3, 5, 0), 1);
    }

    /** Terms 3: "SHARES, at most 60, are told beside:" */
    void sixtyShares() {
        GridRoom room = ruled(room("1 2 3. 1 2 4."), "consonant last;");
        for (int i = 0; i < 60; i++) {
            due("SHARE " + i, room.share(i % 2, 0, 10 + i % 20, i < 20), i);
        }
        due("the 61st", room.share(CONSONANT, 30, 31, true), NONE);
        due("the 61st that does not", room.share(VOWEL, 30, 31, false), NONE);
        due("60 were told", room.count(3), 60);
        due("ten, and that by the CLAUSE", room.links(CONSONANT, 0), 11);
        due("ten", room.links(VOWEL, 0), 10);
    }

    /** Terms 3: "of a SORT two unlike SIGNS do (1), or do not (0)." */
    void sharesSayDoOrDoNot() {
        GridRoom room = new GridRoom();
        room.share(CONSONANT, 0, 39, true);
        room.share(VOWEL, 1, 2, true);
        room.share(VOWEL, 3, 4, false);
        due("of consonant", room.classOf(CONSONANT, 39, 0), 0);
        due("not of vowel", room.classOf(VOWEL, 39, 0), 39);
        due("of vowel", room.classOf(VOWEL, 2, 0), 1);
        due("not of consonant", room.classOf(CONSONANT, 2, 0), 2);
        due("do not", room.classOf(VOWEL, 4, 0), 4);
        due("like ones", room.share(VOWEL, 3, 3, true), NONE);
        due("like ones", room.share(VOWEL, 3, 3, false), NONE);
    }

    /** Terms 3: "They SHARE also by one that COUNTS and says so;" */
    void sharesThatSayTheyDo() {
        for (int sort = 0; sort < 2; sort++) {
            GridRoom room = new GridRoom();
            room.day(1);
            room.share(sort, 2, 1, true);
            room.day(1);
            room.away(1, 0);
            int[] links = {0, 1, 0};
            for (int known = 0; known < links.length; known++) {
                due("on DAY " + known, room.links(sort, known), links[known]);
                due("none of the other SORT", room.links(1 - sort, known), 0);
            }
            room.share(sort, 1, 2, true);
            room.share(sort, 1, 2, true);
            room.away(1, 1);
            due("by one of two that COUNTS", room.links(sort, 2), 1);
        }
    }

    /** Terms 3: "they are PARTED by one that COUNTS and says that they do not." */
    void sharesThatSayTheyDoNot() {
        for (int sort = 0; sort < 2; sort++) {
            GridRoom room = new GridRoom();
            room.share(sort, 1, 2, true);
            room.day(1);
            room.share(sort, 2, 1, false);
            room.share(sort, 1, 2, false);
            room.day(1);
            room.away(1, 1);
            room.day(1);
            room.away(1, 2);
            int[] kinds = {NONE, 2, 2, NONE};
            for (int known = 0; known < kinds.length; known++) {
                due("PARTED on DAY " + known, room.clash(known, 2), kinds[known]);
                due("they SHARE as well on DAY " + known, room.links(sort, known), 1);
            }
        }
    }

    /** Terms 3: "(SIGNS that are ONE are left out.)" */
    void sharesOfSignsThatAreOne() {
        GridRoom room = room("5.", "6.");
        named(room, "ka 0", "ka 1");
        room.holds(0, 1, 2, 1);
        room.holds(0, 5, 6, 1);
        due("a SHARE of two that are ONE is told", room.share(VOWEL, 1, 2, true), 0);
        due("and that they do not", room.share(VOWEL, 1, 2, false), 1);
        room.share(CONSONANT, 6, 5, false);
        due("no LINK", room.links(VOWEL, 0), 0);
        due("no CLASH", room.clash(0, 0), NONE);
        due("not PARTED from itself", room.ways(0), 1);
        room.day(1);
        room.holds(0, 1, 2, 2);
        due("a LINK when they are two", room.links(VOWEL, 1), 1);
        due("a CLASH when they are two", room.clash(1, 2), 2);
        due("none on the DAY before", room.clash(0, 2), NONE);
    }

    /** Terms 3: "LINKS of a SORT: all pairs that SHARE." */
    void linksAreAllPairs() {
        GridRoom room = ruled(room("1 2 3. 1 2 4. 1 2 5."), "vowel last;vowel 3;consonant 3 count 2;");
        due("3-4, 3-5, 4-5, by two CLAUSES", room.links(VOWEL, 0), 3);
        due("none of the other SORT", room.links(CONSONANT, 0), 0);
        share(room, VOWEL, 3, 4);
        due("told beside as well", room.links(VOWEL, 0), 3);
        share(room, VOWEL, 4, 9);
        due("and another", room.links(VOWEL, 0), 4);
        due("none in an empty room", new GridRoom().links(VOWEL, 0), 0);
    }

    /** Terms 3: "CLASS of a SIGN: what can be come to over LINKS of the SORT, named by its least SIGN." */
    void classesByLinks() {
        GridRoom room = new GridRoom();
        share(room, CONSONANT, 39, 38, 20, 0);
        share(room, CONSONANT, 7, 9, 5);
        part(room, CONSONANT, 5, 0);
        share(room, VOWEL, 5, 0);
        int[][] due = {{0, 0}, {20, 0}, {38, 0}, {39, 0}, {5, 5}, {7, 5}, {9, 5}, {8, 8}};
        for (int[] one : due) {
            due("CLASS of " + one[0], room.classOf(CONSONANT, one[0], 0), one[1]);
        }
        due("of vowel", room.classOf(VOWEL, 5, 0), 0);
        due("of vowel", room.classOf(VOWEL, 39, 0), 39);
        GridRoom chain = new GridRoom();
        for (int s = 0; s < 39; s++) {
            share(chain, VOWEL, s, s + 1);
        }
        due("over 39 LINKS", chain.classOf(VOWEL, 39, 0), 0);
        due("all but one", chain.links(VOWEL, 0), 39);
    }

    /** Terms 3: "A CLASH of two SIGNS a below b:" */
    void clashFromTheLowerSign() {
        GridRoom room = new GridRoom();
        share(room, VOWEL, 39, 0);
        part(room, VOWEL, 39, 0);
        dueClash(room, 0, 39, 2, link(VOWEL, 0, 39));
        GridRoom other = new GridRoom();
        share(other, VOWEL, 9, 4);
        share(other, CONSONANT, 9, 4);
        dueClash(other, 4, 9, 1, link(CONSONANT, 4, 9), link(VOWEL, 4, 9));
        due("no CLASH of a SIGN with itself", new GridRoom().clash(0, 0), NONE);
    }

    /** Terms 3: "1 they are of one CLASS of both SORTS:" */
    void clashOfBothSorts() {
        GridRoom room = new GridRoom();
        share(room, CONSONANT, 1, 2, 3);
        share(room, VOWEL, 3, 4, 5);
        due("3 alone is in both", room.clash(0, 0), NONE);
        share(room, VOWEL, 5, 1);
        due("1 and 3", room.clash(0, 2), 1);
        due("1", room.clash(0, 0), 1);
        due("3", room.clash(0, 1), 3);
    }

    /** Terms 3: "its REASON is a shortest way over LINKS of consonant, then one of vowel, from a to b;" */
    void reasonOfBothSorts() {
        GridRoom room = new GridRoom();
        share(room, CONSONANT, 5, 7, 6, 9);
        share(room, CONSONANT, 5, 8, 9);
        share(room, VOWEL, 9, 2, 1, 5);
        dueClash(room, 5, 9, 1, link(CONSONANT, 5, 8), link(CONSONANT, 8, 9), link(VOWEL, 5, 1), link(VOWEL, 1, 2),
                link(VOWEL, 2, 9));
    }

    /** Terms 3: "or 2 they are PARTED by a SORT and of one CLASS of that: a shortest way over its LINKS" */
    void clashOfPartedSigns() {
        GridRoom room = new GridRoom();
        share(room, VOWEL, 9, 8, 7, 5);
        part(room, CONSONANT, 9, 5);
        due("PARTED by the other SORT", room.clash(0, 0), NONE);
        part(room, VOWEL, 5, 6);
        due("PARTED, but of no one CLASS", room.clash(0, 0), NONE);
        part(room, VOWEL, 9, 5);
        dueClash(room, 5, 9, 2, link(VOWEL, 5, 7), link(VOWEL, 7, 8), link(VOWEL, 8, 9));
        share(room, VOWEL, 9, 30, 5);
        dueClash(room, 5, 9, 2, link(VOWEL, 5, 30), link(VOWEL, 30, 9));
    }

    /** Terms 3: "(if of both, the shorter one, of like ones that of consonant;" */
    void partedByBothSorts() {
        GridRoom room = new GridRoom();
        part(room, CONSONANT, 1, 2);
        part(room, VOWEL, 1, 2);
        share(room, CONSONANT, 1, 10, 11, 2);
        share(room, VOWEL, 1, 20, 2);
        dueClash(room, 1, 2, 2, link(VOWEL, 1, 20), link(VOWEL, 20, 2));
        share(room, CONSONANT, 1, 30, 2);
        dueClash(room, 1, 2, 2, link(CONSONANT, 1, 30), link(CONSONANT, 30, 2));
        share(room, VOWEL, 1, 2);
        dueClash(room, 1, 2, 2, link(VOWEL, 1, 2));
        share(room, CONSONANT, 1, 2);
        dueClash(room, 1, 2, 2, link(CONSONANT, 1, 2));
    }

    /** Terms 3: "of two kinds of CLASH the shorter REASON, then kind 1)." */
    void clashOfBothKinds() {
        GridRoom room = new GridRoom();
        share(room, CONSONANT, 1, 3, 4, 2);
        share(room, VOWEL, 1, 2);
        dueClash(room, 1, 2, 1, link(CONSONANT, 1, 3), link(CONSONANT, 3, 4), link(CONSONANT, 4, 2), link(VOWEL, 1, 2));
        // One REASON of kind 1 has all LINKS of one of kind 2 and more: they are never of like length.
        part(room, CONSONANT, 1, 2);
        dueClash(room, 1, 2, 2, link(CONSONANT, 1, 3), link(CONSONANT, 3, 4), link(CONSONANT, 4, 2));
        part(room, VOWEL, 1, 2);
        dueClash(room, 1, 2, 2, link(VOWEL, 1, 2));
    }

    /** Terms 3: "Of several shortest ways the one whose SIGNS come first." */
    void theFirstOfShortestWays() {
        GridRoom room = new GridRoom();
        part(room, VOWEL, 1, 9);
        share(room, VOWEL, 1, 6, 3, 9);
        share(room, VOWEL, 1, 5, 8, 9);
        dueClash(room, 1, 9, 2, link(VOWEL, 1, 5), link(VOWEL, 5, 8), link(VOWEL, 8, 9));
        share(room, VOWEL, 5, 7, 9);
        dueClash(room, 1, 9, 2, link(VOWEL, 1, 5), link(VOWEL, 5, 7), link(VOWEL, 7, 9));
        // A lesser SIGN that leads nowhere in time.
        share(room, VOWEL, 1, 2, 4, 0, 9);
        dueClash(room, 1, 9, 2, link(VOWEL, 1, 5), link(VOWEL, 5, 7), link(VOWEL, 7, 9));
        // The least SIGN of all, between the two.
        GridRoom zero = new GridRoom();
        part(zero, VOWEL, 1, 2);
        share(zero, VOWEL, 1, 3, 2);
        share(zero, VOWEL, 1, 0, 2);
        dueClash(zero, 1, 2, 2, link(VOWEL, 1, 0), link(VOWEL, 0, 2));
        // Of both parts of a REASON of kind 1.
        GridRoom both = new GridRoom();
        share(both, CONSONANT, 10, 13, 20);
        share(both, CONSONANT, 10, 12, 20);
        share(both, VOWEL, 20, 15, 10);
        share(both, VOWEL, 20, 14, 10);
        dueClash(both, 10, 20, 1, link(CONSONANT, 10, 12), link(CONSONANT, 12, 20), link(VOWEL, 10, 14), link(VOWEL, 14, 20));
    }

    /** Terms 3: "THE CLASH is that with the shortest REASON, of like ones the least a, then b." */
    void theClash() {
        GridRoom room = new GridRoom();
        share(room, VOWEL, 0, 1, 2);
        part(room, VOWEL, 0, 2);
        due("two LINKS, least a", room.clash(0, 0), 0);
        share(room, VOWEL, 20, 31);
        part(room, VOWEL, 20, 31);
        dueClash(room, 20, 31, 2, link(VOWEL, 20, 31));
        share(room, CONSONANT, 20, 30);
        part(room, CONSONANT, 20, 30);
        dueClash(room, 20, 30, 2, link(CONSONANT, 20, 30));
        share(room, VOWEL, 19, 39);
        part(room, VOWEL, 19, 39);
        dueClash(room, 19, 39, 2, link(VOWEL, 19, 39));
        // Kinds don't matter between pairs: of two LINKS each, the least a.
        GridRoom kinds = new GridRoom();
        share(kinds, CONSONANT, 5, 6);
        share(kinds, VOWEL, 5, 6);
        share(kinds, VOWEL, 4, 10, 7);
        part(kinds, VOWEL, 4, 7);
        dueClash(kinds, 4, 7, 2, link(VOWEL, 4, 10), link(VOWEL, 10, 7));
        share(kinds, CONSONANT, 3, 8);
        share(kinds, VOWEL, 3, 8);
        dueClash(kinds, 3, 8, 1, link(CONSONANT, 3, 8), link(VOWEL, 3, 8));
    }
}
