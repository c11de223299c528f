/** Promises 13 (share), 14 (pairs), 15 (links), 16 (classOf), 17 (clash), 18 (reason). */
public final class LinksTest {
    private static final int CONSONANT = 0;
    private static final int VOWEL = 1;

    public static void main(String[] args) {
        Checks c = new Checks();
        sharing(c);
        mostShares(c);
        pairsOfRows(c);
        rowsOnce(c);
        lengthsAndPlaces(c);
        countsOfClauses(c);
        standingSigns(c);
        classes(c);
        knownOnDays(c);
        noClash(c);
        clashOfBothSorts(c);
        clashOfParted(c);
        firstOfSeveral(c);
        longestReason(c);
        c.close();
    }

    private static void sharing(Checks c) {
        GridRoom room = new GridRoom();
        c.due("sort 2", room.share(2, 1, 2, true), -1);
        c.due("sort -1", room.share(-1, 1, 2, true), -1);
        c.due("sign 40", room.share(0, 40, 2, true), -1);
        c.due("sign 40", room.share(0, 2, 40, true), -1);
        c.due("sign -1", room.share(0, -1, 2, true), -1);
        c.due("sign -1", room.share(0, 2, -1, true), -1);
        c.due("one", room.share(0, 2, 2, true), -1);
        c.due("none was told", room.count(3), 0);
        c.due("the first", room.share(0, 39, 0, true), 0);
        c.due("the same once more", room.share(0, 0, 39, true), 1);
        c.due("of the other sort", room.share(1, 0, 39, false), 2);
        c.due("links of consonant", room.links(0, 0), 1);
        c.due("links of vowel", room.links(1, 0), 0);
        c.due("one put away, the same counts still", room.away(1, 0), true);
        c.due("links of consonant", room.links(0, 0), 1);
        room.away(1, 1);
        c.due("both put away", room.links(0, 0), 0);
    }

    private static void mostShares(Checks c) {
        GridRoom room = new GridRoom();
        for (int i = 0; i < 60; i++) {
            c.due("share " + i, room.share(i % 2, i % 30, 39 - i % 9, true), i);
        }
        c.due("the 61st", room.share(0, 1, 2, true), -1);
        room.away(1, 59);
        c.due("60 were told still", room.share(0, 1, 2, true), -1);
        c.due("count", room.count(3), 60);
    }

    private static GridRoom room(String rules, String... tablets) {
        GridRoom room = new GridRoom();
        if (Checks.rules(room, rules) < 0) {
            throw new IllegalStateException(rules);
        }
        for (String tablet : tablets) {
            if (Checks.tablet(room, tablet) < 0) {
                throw new IllegalStateException(tablet);
            }
        }
        return room;
    }

    private static void pairsOfRows(Checks c) {
        GridRoom room = room("consonant last; vowel first; drop k; vowel 2;", "1 2 3. 1 2 4.", "5 2 3. 1 6 3. 1 2 5.");
        c.due("last: 3 4", room.pairs(0, 3, 4, 0), 1);
        c.due("in either order", room.pairs(0, 4, 3, 0), 1);
        c.due("last: 3 5", room.pairs(0, 3, 5, 0), 1);
        c.due("last: 1 5", room.pairs(0, 1, 5, 0), 0);
        c.due("first: 1 5", room.pairs(1, 5, 1, 0), 1);
        c.due("second: 2 6", room.pairs(3, 2, 6, 0), 1);
        c.due("a CLAUSE of no SORT", room.pairs(2, 2, 6, 0), 0);
        c.due("no CLAUSE 4", room.pairs(4, 2, 6, 0), -1);
        c.due("no CLAUSE -1", room.pairs(-1, 2, 6, 0), -1);
        c.due("no SIGN 40", room.pairs(0, 40, 6, 0), -1);
        c.due("no SIGN -1", room.pairs(0, 6, -1, 0), -1);
        c.due("no DAY 1", room.pairs(0, 2, 6, 1), -1);
        c.due("no DAY -1", room.pairs(0, 2, 6, -1), -1);
        c.due("one and the same", room.pairs(0, 3, 3, 0), 0);
        c.due("links of consonant: 3-4, 3-5, 4-5", room.links(CONSONANT, 0), 3);
        c.due("links of vowel: 1-5, 2-6", room.links(VOWEL, 0), 2);
        c.due("no sort 2", room.links(2, 0), -1);
        c.due("no sort -1", room.links(-1, 0), -1);
        c.due("no day", room.links(0, 1), -1);
        c.due("no day", room.links(0, -1), -1);
    }

    private static void rowsOnce(Checks c) {
        GridRoom room = room("consonant last;", "1 2 3. 1 2 3. 1 2 4.", "1 2 3. 1 2 4. 1 ? 3. 1 ? 4. 1 2 ?.");
        c.due("each ROW once, none with what can't be read", room.pairs(0, 3, 4, 0), 1);
        Checks.tablet(room, "7 2 3. 7 2 4.");
        c.due("another pair", room.pairs(0, 3, 4, 0), 2);
        room.away(0, 2);
        c.due("of TABLETS that COUNT", room.pairs(0, 3, 4, 0), 1);
        room.away(0, 0);
        c.due("of one of the two", room.pairs(0, 3, 4, 0), 1);
        room.away(0, 1);
        c.due("of none", room.pairs(0, 3, 4, 0), 0);
    }

    private static void lengthsAndPlaces(Checks c) {
        String rows = "1 2. 1 3. 4 2.";
        String longer = "1 2 5. 1 2 6. 1 2 5 8. 1 2 5 9. 1 2 5 8 1 1. 1 2 5 8 1 7. 1 2 5 8 2 1.";
        GridRoom room = room("vowel last; vowel last length 2; vowel last length 4; vowel 4 length 2;"
                + "vowel first length 2; vowel 6; vowel 5;", rows, longer);
        int[][] due = {
            {0, 2, 3, 0}, {1, 2, 3, 1}, {0, 5, 6, 1}, {1, 5, 6, 1}, {2, 5, 6, 0}, {2, 8, 9, 1}, {0, 8, 9, 1},
            {3, 8, 9, 1}, {3, 5, 6, 0}, {4, 1, 4, 1}, {5, 1, 7, 1}, {0, 1, 7, 1}, {6, 1, 2, 1}, {5, 1, 2, 0},
            {5, 8, 9, 0}};
        for (int[] one : due) {
            c.due("clause " + one[0] + " of " + one[1] + " and " + one[2], room.pairs(one[0], one[1], one[2], 0), one[3]);
        }
        GridRoom alone = room("vowel first length 2; vowel first;", "1. 2. 0. 0 0. 0 1. 1 2 3. 1 2 4 5.");
        c.due("ROWS of one place tell nothing", alone.pairs(0, 1, 2, 0), 0);
        c.due("ROWS of unlike lengths tell nothing", alone.links(VOWEL, 0), 0);
        GridRoom two = room("vowel first; vowel 2; vowel last;", "1 2 3. 4 5 3. 4 2 6. 7 8 9.");
        c.due("unlike in two places", two.links(VOWEL, 0), 0);
    }

    private static void countsOfClauses(Checks c) {
        GridRoom room = room("consonant last count 2; vowel last count 3; consonant first count 1;",
                "1 1 5. 1 1 6. 1 2 5. 1 2 6. 1 3 7. 1 3 8.");
        c.due("two pairs", room.pairs(0, 5, 6, 0), 2);
        c.due("one pair", room.pairs(0, 7, 8, 0), 1);
        c.due("two are enough", room.links(CONSONANT, 0), 1);
        c.due("but not for three", room.links(VOWEL, 0), 0);
        Checks.tablet(room, "2 2 5. 2 2 6.");
        c.due("now they are", room.links(VOWEL, 0), 1);
        c.due("and by first", room.links(CONSONANT, 0), 2);
        c.due("which tells of 1 and 2", room.classOf(CONSONANT, 2, 0), 1);
        GridRoom apart = room("consonant first count 2; consonant last count 2;", "1 7 2. 1 7 3. 2 7 1. 3 7 1.");
        c.due("pairs of unlike CLAUSES don't add up", apart.links(CONSONANT, 0), 0);
    }

    private static void standingSigns(Checks c) {
        GridRoom room = room("consonant last; vowel first length 2;", "1 2 3. 1 2 4. 9 2 3. 9 2 4. 9 9. 1 1.");
        c.due("two pairs", room.pairs(0, 3, 4, 0), 2);
        room.share(CONSONANT, 9, 7, true);
        room.share(VOWEL, 1, 9, true);
        room.share(VOWEL, 1, 9, false);
        c.due("a clash", room.clash(0, 2), 2);
        room.holds(0, 1, 9, 1);
        c.due("of ROWS as they STAND one", room.pairs(0, 3, 4, 0), 1);
        c.due("pairs of ONE", room.pairs(0, 1, 9, 0), 0);
        c.due("SHARES of ONE are left out", room.clash(0, 2), -1);
        c.due("the SHARE of 9 is one of 1", room.classOf(CONSONANT, 7, 0), 1);
        c.due("CLASS of one that STANDS as another", room.classOf(CONSONANT, 9, 0), 1);
        c.due("links: 3-4, 1-7", room.links(CONSONANT, 0), 2);
        room.holds(1, 3, 4, 1);
        c.due("ONE have no link", room.links(CONSONANT, 0), 1);
        c.due("nor pairs", room.pairs(0, 3, 4, 0), 0);
        room.holds(2, 20, 3, 1);
        c.due("pairs as they STAND", room.pairs(0, 20, 4, 0), 0);
    }

    private static void classes(Checks c) {
        GridRoom room = new GridRoom();
        room.share(CONSONANT, 30, 20, true);
        room.share(CONSONANT, 20, 10, true);
        room.share(CONSONANT, 10, 5, true);
        room.share(CONSONANT, 6, 7, true);
        room.share(CONSONANT, 6, 5, false);
        c.due("over three LINKS", room.classOf(CONSONANT, 30, 0), 5);
        c.due("of itself", room.classOf(CONSONANT, 5, 0), 5);
        c.due("of another", room.classOf(CONSONANT, 7, 0), 6);
        c.due("of no LINK", room.classOf(CONSONANT, 8, 0), 8);
        c.due("of the other SORT", room.classOf(VOWEL, 30, 0), 30);
        c.due("sort 2", room.classOf(2, 3, 0), -1);
        c.due("sort -1", room.classOf(-1, 3, 0), -1);
        c.due("sign 40", room.classOf(0, 40, 0), -1);
        c.due("sign -1", room.classOf(0, -1, 0), -1);
        c.due("day 1", room.classOf(0, 1, 1), -1);
    }

    private static void knownOnDays(Checks c) {
        GridRoom room = new GridRoom();
        Checks.tablet(room, "1 2 3. 1 2 4. 5 2 3.");
        room.day(1);
        Checks.rules(room, "consonant last;");
        room.day(1);
        Checks.rules(room, "consonant first;");
        Checks.rules(room, "vowel first; consonant 2;");
        room.day(1);
        Checks.tablet(room, "1 6 3.");
        c.due("without RULES", room.links(CONSONANT, 0), 0);
        c.due("no CLAUSE without RULES", room.pairs(0, 3, 4, 0), -1);
        c.due("RULES of day 1", room.links(CONSONANT, 1), 1);
        c.due("RULES of day 1", room.pairs(0, 3, 4, 1), 1);
        c.due("the last of day 2", room.links(CONSONANT, 2), 0);
        c.due("the last of day 2", room.links(VOWEL, 2), 1);
        c.due("a TABLET of day 3", room.links(CONSONANT, 3), 1);
        c.due("a TABLET of day 3", room.classOf(CONSONANT, 6, 3), 2);
        c.due("known on day 2 as ever", room.classOf(CONSONANT, 6, 2), 6);
        c.due("before RULES of the same DAY", room.links(VOWEL, 3), 1);
        Checks.rules(room, "vowel first; vowel last;");
        c.due("after RULES of the same DAY", room.links(VOWEL, 3), 2);
        Checks.tablet(room, "1 2 7.");
        c.due("after a TABLET of the same DAY", room.links(VOWEL, 3), 4);
        room.share(VOWEL, 30, 31, true);
        c.due("after a SHARE of the same DAY", room.links(VOWEL, 3), 5);
        room.holds(0, 30, 31, 1);
        c.due("after a HAND told on the same DAY", room.links(VOWEL, 3), 4);
        room.trust(0, 0);
        c.due("after other TRUST", room.links(VOWEL, 3), 5);
    }

    private static void noClash(Checks c) {
        GridRoom room = new GridRoom();
        room.share(CONSONANT, 1, 2, true);
        room.share(VOWEL, 2, 3, true);
        room.share(VOWEL, 1, 2, false);
        room.share(CONSONANT, 2, 3, false);
        for (int what = -1; what < 5; what++) {
            c.due("no clash " + what, room.clash(0, what), -1);
            c.due("no reason " + what, room.reason(0, 0, what), -1);
        }
    }

    private static void reasons(Checks c, GridRoom room, int[] clash, int[]... links) {
        for (int what = 0; what < 3; what++) {
            c.due("clash " + what, room.clash(0, what), clash[what]);
        }
        c.due("its length", room.clash(0, 3), links.length);
        for (int i = 0; i < links.length; i++) {
            for (int what = 0; what < 3; what++) {
                c.due("reason " + i + " " + what, room.reason(0, i, what), links[i][what]);
            }
            c.due("reason of no what", room.reason(0, i, 3), -1);
            c.due("reason of no what", room.reason(0, i, -1), -1);
        }
        c.due("behind the reason", room.reason(0, links.length, 0), -1);
        c.due("ahead of the reason", room.reason(0, -1, 0), -1);
        c.due("far behind", room.reason(0, Integer.MAX_VALUE, 0), -1);
        c.due("clash of no what", room.clash(0, 4), -1);
        c.due("clash of no what", room.clash(0, -1), -1);
        c.due("clash on no day", room.clash(1, 0), -1);
        c.due("clash on no day", room.clash(-1, 0), -1);
        c.due("reason on no day", room.reason(1, 0, 0), -1);
    }

    private static void clashOfBothSorts(Checks c) {
        GridRoom room = new GridRoom();
        room.share(CONSONANT, 3, 2, true);
        room.share(CONSONANT, 2, 1, true);
        room.share(VOWEL, 3, 1, true);
        reasons(c, room, new int[] {1, 3, 1}, new int[] {0, 1, 2}, new int[] {0, 2, 3}, new int[] {1, 1, 3});
        // Both ways go from the lower SIGN to the higher one.
        GridRoom other = new GridRoom();
        other.share(CONSONANT, 30, 4, true);
        other.share(VOWEL, 9, 4, true);
        other.share(VOWEL, 9, 12, true);
        other.share(VOWEL, 30, 12, true);
        reasons(c, other, new int[] {4, 30, 1}, new int[] {0, 4, 30}, new int[] {1, 4, 9}, new int[] {1, 9, 12},
                new int[] {1, 12, 30});
    }

    private static void clashOfParted(Checks c) {
        GridRoom room = new GridRoom();
        room.share(VOWEL, 8, 5, true);
        room.share(VOWEL, 8, 2, true);
        room.share(VOWEL, 5, 2, false);
        reasons(c, room, new int[] {2, 5, 2}, new int[] {1, 2, 8}, new int[] {1, 8, 5});
        // PARTED of both SORTS: of ways of like length that of consonant.
        room.share(CONSONANT, 7, 5, true);
        room.share(CONSONANT, 7, 2, true);
        room.share(CONSONANT, 2, 5, false);
        reasons(c, room, new int[] {2, 5, 2}, new int[] {0, 2, 7}, new int[] {0, 7, 5});
        // The shorter one, though it is of vowel; it is shorter than that of both SORTS, too.
        room.share(VOWEL, 2, 5, true);
        reasons(c, room, new int[] {2, 5, 2}, new int[] {1, 2, 5});
        // PARTED, but of no one CLASS of that SORT.
        GridRoom apart = new GridRoom();
        apart.share(VOWEL, 1, 2, true);
        apart.share(CONSONANT, 1, 2, false);
        c.due("PARTED by the other SORT", apart.clash(0, 0), -1);
        apart.share(VOWEL, 2, 1, false);
        c.due("PARTED by that SORT", apart.clash(0, 2), 2);
        apart.away(1, 2);
        c.due("it counts no more", apart.clash(0, 2), -1);
    }

    private static void firstOfSeveral(Checks c) {
        // Of shortest ways the one whose SIGNS come first: 1 4 6 9 ahead of 1 5 3 9.
        GridRoom ways = new GridRoom();
        int[][] links = {{1, 5}, {5, 3}, {3, 9}, {1, 4}, {4, 8}, {8, 9}, {4, 6}, {6, 9}};
        for (int[] link : links) {
            ways.share(CONSONANT, link[0], link[1], true);
        }
        ways.share(VOWEL, 1, 9, true);
        reasons(c, ways, new int[] {1, 9, 1}, new int[] {0, 1, 4}, new int[] {0, 4, 6}, new int[] {0, 6, 9},
                new int[] {1, 1, 9});
        // Of CLASHES with REASONS of like length the least a, then b.
        GridRoom several = new GridRoom();
        several.share(CONSONANT, 20, 21, true);
        several.share(CONSONANT, 20, 21, false);
        several.share(VOWEL, 10, 31, true);
        several.share(VOWEL, 10, 31, false);
        several.share(VOWEL, 10, 30, true);
        several.share(VOWEL, 10, 30, false);
        reasons(c, several, new int[] {10, 30, 2}, new int[] {1, 10, 30});
        // A shorter REASON is ahead of a lesser a.
        several.share(CONSONANT, 1, 2, true);
        several.share(VOWEL, 1, 2, true);
        reasons(c, several, new int[] {10, 30, 2}, new int[] {1, 10, 30});
        several.away(1, 1);
        several.away(1, 3);
        several.away(1, 5);
        reasons(c, several, new int[] {1, 2, 1}, new int[] {0, 1, 2}, new int[] {1, 1, 2});
        // Kind 2 of another pair with a REASON of two LINKS, and a lesser a.
        several.share(VOWEL, 0, 5, true);
        several.share(VOWEL, 5, 6, true);
        several.share(VOWEL, 0, 6, false);
        reasons(c, several, new int[] {0, 6, 2}, new int[] {1, 0, 5}, new int[] {1, 5, 6});
    }

    private static void longestReason(Checks c) {
        GridRoom room = new GridRoom();
        for (int s = 0; s < 39; s++) {
            room.share(CONSONANT, s, s + 1, true);
        }
        room.share(CONSONANT, 39, 0, false);
        c.due("39 LINKS", room.clash(0, 3), 39);
        c.due("the last but one", room.reason(0, 37, 2), 38);
        c.due("the last", room.reason(0, 38, 2), 39);
        c.due("none behind", room.reason(0, 39, 2), -1);
        c.due("of one CLASS", room.classOf(CONSONANT, 39, 0), 0);
        c.due("39 links", room.links(CONSONANT, 0), 39);
        room.share(VOWEL, 0, 39, true);
        c.due("kind 2 is shorter", room.clash(0, 2), 2);
        room.away(1, 39);
        c.due("then kind 1", room.clash(0, 2), 1);
        c.due("with 40 LINKS", room.clash(0, 3), 40);
        c.due("the last of them of vowel", room.reason(0, 39, 0), 1);
        c.due("from 0", room.reason(0, 39, 1), 0);
    }
}
