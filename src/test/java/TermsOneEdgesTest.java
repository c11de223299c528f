/** Sentences of "Terms", part 1: DAYS, SIGNS, TABLETS and HANDS. */
public final class TermsOneEdgesTest extends Edges {
    public static void main(String[] args) throws Exception {
        new TermsOneEdgesTest().runAll();
    }

    /** What it is: "An object is used for at most 512 calls after it has been made; what later calls answer is free." */
    void callsOfOneObject() {
        GridRoom room = new GridRoom();
        room.feed(0x31203220, 0x332E2020, 0x20202020, 0x20202020, 0x20202020);
        room.tablet();
        room.feed(0x6B612020, 0, 0, 0, 0);
        room.end(2);
        for (int call = 5; call <= 511; call++) {
            due("call " + call, room.often(2, 0, 3), 1);
        }
        due("call 512", room.would(0, 0), 0);
    }

    /** Constants: "NONE = -1" */
    void noneIsMinusOne() {
        due("NONE", GridRoom.NONE, -1);
        due("an answer that is NONE", new GridRoom().letter(0), GridRoom.NONE);
    }

    /** Constants: "There is none." */
    void noneSaysThatThereIsNone() {
        GridRoom room = room("0 ?.");
        due("a SIGN 0 is no NONE", told(room, 0, 0, 0), 0);
        due("what can't be read is NONE", told(room, 0, 0, 1), GridRoom.NONE);
        named(room, "aa 0");
        due("a CELL 0 is no NONE", room.forced(0, 0), 0);
        due("a SIGN without is NONE", room.forced(0, 1), GridRoom.NONE);
    }

    /** Terms 1: "DAYS are numbered from 0 on." */
    void daysFromZero() {
        GridRoom room = new GridRoom();
        due("the first DAY", room.count(0), 0);
        due("known on DAY 0", room.ways(0), 1);
        due("known on DAY -1", room.ways(-1), NONE);
        due("known on DAY 1", room.ways(1), NONE);
        due("the next DAY", room.day(1), 1);
        due("known on DAY 1", room.ways(1), 1);
        due("known on DAY 2", room.ways(2), NONE);
    }

    /** Terms 1: "SIGNS are 0 to 39." */
    void signsToThirtyNine() {
        GridRoom room = room("0 39.");
        due("the least", told(room, 0, 0, 0), 0);
        due("the greatest", told(room, 0, 0, 1), 39);
        due("one beyond", tablet(room, "40."), CANNOT_BE);
        due("sign 0", room.sign(0, 0), 0);
        due("sign 39", room.sign(39, 0), 39);
        due("sign -1", room.sign(-1, 0), NONE);
        due("sign 40", room.sign(40, 0), NONE);
    }

    /** Terms 1: "TABLETS, at most 24, numbered as they come," */
    void twentyFourTablets() {
        GridRoom room = new GridRoom();
        for (int i = 0; i < 24; i++) {
            if (i == 9) {
                due("one with a FAULT has no number", tablet(room, "1"), WRONG);
            }
            if (i == 14) {
                due("one that is put away keeps its number", room.away(0, 3), true);
                room.day(1);
            }
            due("TABLET " + i, tablet(room, (i + 1) + " 0."), i);
        }
        due("the 25th", tablet(room, "1."), NONE);
        due("24 are there", room.count(1), 24);
        for (int i = 0; i < 24; i++) {
            due("what TABLET " + i + " says", told(room, i, 0, 0), i + 1);
        }
    }

    /** Terms 1: "hold 1 to 8 WORDS of 1 to 6 places," */
    void wordsAndPlaces() {
        GridRoom room = room("5.", "1.2.3.4.5.6.7.8.", "1 2 3 4 5 6.", "9 9 9 9 9 1.".repeat(8));
        due("one WORD of one place", told(room, 0, 0, 0), 5);
        due("no 2nd place", told(room, 0, 0, 1), THROWN);
        due("no 2nd WORD", told(room, 0, 1, 0), THROWN);
        due("the 8th WORD", told(room, 1, 7, 0), 8);
        due("no 9th WORD", told(room, 1, 8, 0), THROWN);
        due("the 6th place", told(room, 2, 0, 5), 6);
        due("no 7th place", told(room, 2, 0, 6), THROWN);
        due("the 6th place of the 8th WORD", told(room, 3, 7, 5), 1);
        due("all of them", room.often(9, 0, 4), 40);
        due("no WORD", tablet(room, ""), WRONG);
        due("a WORD without places", tablet(room, "."), WRONG);
        due("a WORD without places behind another", tablet(room, "1.."), WRONG);
        due("9 WORDS", tablet(room, "1.".repeat(9)), TOO_MANY);
        due("7 places", tablet(room, "1 1 1 1 1 1 1."), TOO_MANY);
        due("four TABLETS as ever", room.count(1), 4);
    }

    /** Terms 1: "each a SIGN or one that can't be read." */
    void placesThatCannotBeRead() {
        GridRoom room = room("? 0 ? 39 ? ?. ?.");
        int[] due = {NONE, 0, NONE, 39, NONE, NONE, THROWN};
        for (int i = 0; i < due.length; i++) {
            due("place " + i, told(room, 0, 0, i), due[i]);
        }
        due("a WORD of one that can't be read", told(room, 0, 1, 0), NONE);
        due("it is a place nevertheless: SIGN 0 is within", room.often(0, 0, 3), 1);
        due("and none of the SIGNS", room.rank(0, 2), NONE);
    }

    /** Terms 1: "They come on the DAY at hand" */
    void tabletsComeToday() {
        GridRoom room = new GridRoom();
        room.day(3);
        tablet(room, "7 7.");
        due("on the DAY before", room.often(7, 2, 4), 0);
        due("on the DAY at hand", room.often(7, 3, 4), 2);
        room.day(1);
        due("on the DAY before", room.often(7, 2, 4), 0);
        due("on its DAY still", room.often(7, 3, 4), 2);
    }

    /** Terms 1: "and are put away on that one or a later one:" */
    void putAwayTheSameDayOrLater() {
        GridRoom room = new GridRoom();
        room.day(1);
        tablet(room, "7.");
        tablet(room, "8.");
        due("on the DAY on which it came", room.away(0, 0), true);
        due("it never COUNTS", room.often(7, 1, 4), 0);
        due("nor ahead", room.often(7, 0, 4), 0);
        room.day(1);
        due("nor later", room.often(7, 2, 4), 0);
        due("on a later DAY", room.away(0, 1), true);
        due("it counted ahead", room.often(8, 1, 4), 1);
        due("and does no more", room.often(8, 2, 4), 0);
    }

    /** Terms 1: "as known on a DAY one COUNTS that came by then and wasn't put away by then." */
    void countingByDay() {
        GridRoom room = new GridRoom();
        room.day(2);
        tablet(room, "7.");
        room.day(3);
        room.away(0, 0);
        room.day(2);
        int[] due = {0, 0, 1, 1, 1, 0, 0, 0};
        for (int known = 0; known < due.length; known++) {
            due("TABLET on DAY " + known, room.often(7, known, 2), due[known]);
        }
    }

    /** Terms 1: "So do SHARES and NAMES (below)." */
    void sharesAndNamesCountByDay() {
        GridRoom room = room("1. 2. 3.");
        room.day(2);
        room.share(VOWEL, 5, 6, true);
        room.share(VOWEL, 5, 6, false);
        named(room, "ka 0");
        room.day(3);
        room.away(1, 0);
        room.away(2, 0);
        room.day(1);
        room.away(1, 1);
        room.day(1);
        int[] links = {0, 0, 1, 1, 1, 0, 0, 0};
        int[] ways = {1, 1, 3, 3, 3, 1, 1, 1};
        due("SHARE on DAY 3, asked first", room.links(VOWEL, 3), 1);
        for (int known = 0; known < links.length; known++) {
            due("SHARE on DAY " + known, room.links(VOWEL, known), links[known]);
            due("both SHARES on DAY " + known, room.clash(known, 2), links[known] == 1 ? 2 : NONE);
            due("NAME on DAY " + known, room.ways(known), ways[known]);
        }
        named(room, "ka 0", "ku 0");
        room.share(VOWEL, 5, 6, true);
        due("NAMES of one DAY", room.ways(7), 6);
        due("SHARE on the DAY on which it came", room.links(VOWEL, 7), 1);
        room.away(2, 1);
        room.away(1, 2);
        due("put away on the same DAY", room.ways(7), 3);
        due("put away on the same DAY", room.links(VOWEL, 7), 0);
    }

    /** Terms 1: "HANDS 0 to 3 have TRUST" */
    void fourHands() {
        for (int hand = 0; hand < 4; hand++) {
            GridRoom room = new GridRoom();
            due("HAND " + hand, room.trust(hand, 0), true);
            for (int other = 0; other < 4; other++) {
                due("HAND " + other + " holds", room.holds(other, 2 * other, 2 * other + 1, 1), true);
            }
            for (int other = 0; other < 4; other++) {
                due("TRUST of " + hand + " is none of " + other, room.sign(2 * other + 1, 0),
                        other == hand ? 2 * other + 1 : 2 * other);
            }
        }
        GridRoom room = new GridRoom();
        due("HAND 4", room.trust(4, 1), false);
        due("HAND -1", room.trust(-1, 1), false);
        due("HAND 4 holds", room.holds(4, 1, 2, 1), false);
        due("HAND -1 holds", room.holds(-1, 1, 2, 1), false);
    }

    /** Terms 1: "(0 to 99;" */
    void trustToNinetyNine() {
        GridRoom room = new GridRoom();
        room.holds(0, 1, 2, 1);
        due("0", room.trust(0, 0), true);
        due("0 is none", room.sign(2, 0), 2);
        due("1", room.trust(0, 1), true);
        due("1 is some", room.sign(2, 0), 1);
        due("-1", room.trust(0, -1), false);
        due("1 as ever", room.sign(2, 0), 1);
        due("99", room.trust(0, 99), true);
        room.holds(1, 1, 2, 0);
        due("98", room.trust(1, 98), true);
        due("99 is more than 98", room.sign(2, 0), 1);
        due("100", room.trust(1, 100), false);
        due("98 as ever", room.sign(2, 0), 1);
        due("99", room.trust(1, 99), true);
        due("99 is no more than 99", room.sign(2, 0), 2);
    }

    /** Terms 1: "10 at first;" */
    void trustTenAtFirst() {
        for (int hand = 0; hand < 4; hand++) {
            GridRoom room = new GridRoom();
            int other = (hand + 1) % 4;
            room.holds(hand, 1, 2, 1);
            room.holds(other, 1, 2, 0);
            room.trust(other, 9);
            due("more than 9: HAND " + hand, room.sign(2, 0), 1);
            room.trust(other, 10);
            due("no more than 10: HAND " + hand, room.sign(2, 0), 2);
        }
    }

    /** Terms 1: "always as it is now)." */
    void trustAsItIsNow() {
        GridRoom room = new GridRoom();
        room.holds(0, 1, 2, 1);
        room.holds(1, 1, 2, 0);
        room.day(5);
        due("ten against ten, on DAY 0", room.sign(2, 0), 2);
        room.trust(0, 11);
        due("eleven against ten, on DAY 0", room.sign(2, 0), 1);
        due("eleven against ten, on DAY 5", room.sign(2, 5), 1);
        room.day(1);
        room.trust(1, 12);
        due("eleven against twelve, on DAY 0", room.sign(2, 0), 2);
        due("eleven against twelve, on DAY 6", room.sign(2, 6), 2);
    }

    /** Terms 1: "One holds two SIGNS for the same (1), for unlike ones (0), or says nothing (2), told on the DAY at hand," */
    void holdsTheSameUnlikeNothing() {
        GridRoom room = new GridRoom();
        room.day(2);
        room.holds(0, 1, 2, 1);
        room.holds(1, 1, 2, 2);
        due("on the DAY before", room.sign(2, 1), 2);
        due("for the same, the other says nothing", room.sign(2, 2), 1);
        room.day(1);
        room.holds(1, 1, 2, 0);
        due("the other holds them for unlike ones", room.sign(2, 3), 2);
        due("not on the DAY before", room.sign(2, 2), 1);
        room.day(1);
        room.holds(1, 1, 2, 2);
        due("the other says nothing again", room.sign(2, 4), 1);
        room.holds(0, 1, 2, 2);
        due("none says anything", room.sign(2, 4), 2);
        due("value 3", room.holds(0, 1, 2, 3), false);
        due("value -1", room.holds(0, 1, 2, -1), false);
    }

    /** Terms 1: "200 times at most;" */
    void twoHundredTimes() {
        GridRoom room = new GridRoom();
        for (int i = 0; i < 199; i++) {
            room.holds(i % 4, 0, 1, i % 3);
        }
        due("199 were told", room.count(5), 199);
        due("the 200th", room.holds(3, 4, 5, 1), true);
        due("the 201st of another HAND", room.holds(2, 6, 7, 1), false);
        due("the 201st that says nothing", room.holds(3, 4, 5, 2), false);
        due("200 were told", room.count(5), 200);
        due("by the 200th", room.sign(5, 0), 4);
        due("not by the 201st", room.sign(7, 0), 7);
    }

    /** Terms 1: "as known on a DAY that counts which it told last of these two by then." */
    void whatAHandToldLast() {
        GridRoom room = new GridRoom();
        room.holds(0, 1, 2, 1);
        room.holds(0, 2, 1, 0);
        due("the last of one DAY, in either order", room.sign(2, 0), 2);
        room.day(1);
        room.holds(0, 1, 2, 0);
        room.holds(0, 2, 1, 1);
        room.day(2);
        room.holds(0, 1, 3, 0);
        room.holds(1, 1, 2, 2);
        room.day(1);
        room.holds(0, 1, 2, 2);
        int[] due = {2, 1, 1, 1, 2};
        for (int known = 0; known < due.length; known++) {
            due("on DAY " + known, room.sign(2, known), due[known]);
        }
    }

    /** Terms 1: "Two SIGNS are ONE, if TRUST of all that hold them for the same is more than that of all that hold them for unlike ones;" */
    void oneByMoreTrust() {
        GridRoom room = new GridRoom();
        int[] trusts = {30, 20, 10, 0};
        for (int hand = 0; hand < 4; hand++) {
            room.trust(hand, trusts[hand]);
        }
        room.holds(0, 1, 2, 0);
        room.holds(1, 1, 2, 1);
        room.holds(2, 1, 2, 1);
        due("30 of two against 30 of one", room.sign(2, 0), 2);
        room.trust(3, 1);
        room.holds(3, 1, 2, 1);
        due("31 of three against 30 of one", room.sign(2, 0), 1);
        room.holds(3, 1, 2, 0);
        due("30 of two against 31 of two", room.sign(2, 0), 2);
        room.holds(0, 1, 2, 2);
        due("30 of two against 1", room.sign(2, 0), 1);
        room.trust(1, 0);
        room.trust(2, 0);
        room.trust(3, 0);
        due("0 against 0", room.sign(2, 0), 2);
        room.holds(3, 1, 2, 2);
        due("0 against none", room.sign(2, 0), 2);
        int[][] pairs = {{0, 1}, {0, 2}, {1, 2}, {0, 39}, {38, 39}};
        for (int[] pair : pairs) {
            for (int least = 0; least < 40; least += 4) {
                oneOfAllPairs(pair[0], pair[1], least);
            }
        }
    }

    /** Two are held for the same; of the lowest and four above it that nothing is said of leaves all others two. */
    private void oneOfAllPairs(int a, int b, int least) {
        GridRoom room = new GridRoom();
        room.holds(0, a, b, 1);
        for (int low = least; low < least + 4; low++) {
            for (int high = low + 1; high < 40; high++) {
                room.holds(1, low, high, 2);
            }
        }
        for (int s = 0; s < 40; s++) {
            due(a + " and " + b + " alone are ONE: " + s, room.sign(s, 0), s == b ? a : s);
        }
    }

    /** Terms 1: "and so on by others." */
    void oneByOthers() {
        GridRoom room = new GridRoom();
        room.holds(0, 39, 20, 1);
        room.holds(1, 20, 30, 1);
        due("39 by 20", room.sign(39, 0), 20);
        due("30 by 20", room.sign(30, 0), 20);
        room.holds(2, 30, 39, 0);
        due("though held for unlike ones", room.sign(39, 0), 20);
        room.holds(3, 5, 30, 1);
        due("over two others", room.sign(39, 0), 5);
        room.holds(0, 20, 39, 2);
        due("a link that is gone", room.sign(39, 0), 39);
        due("the others as ever", room.sign(20, 0), 5);
        GridRoom chain = new GridRoom();
        for (int s = 39; s > 0; s--) {
            chain.holds(s % 4, s, s - 1, 1);
        }
        for (int s = 0; s < 40; s++) {
            due("all 40 are ONE: " + s, chain.sign(s, 0), 0);
        }
    }

    /** Terms 1: "A SIGN STANDS as the least of those that are ONE with it." */
    void standsAsTheLeast() {
        GridRoom room = new GridRoom();
        for (int s = 0; s < 40; s++) {
            due("one with itself alone: " + s, room.sign(s, 0), s);
        }
        room.holds(0, 39, 38, 1);
        due("39 as 38", room.sign(39, 0), 38);
        due("38 as itself", room.sign(38, 0), 38);
        room.holds(0, 39, 0, 1);
        due("39 as 0", room.sign(39, 0), 0);
        due("38 as 0", room.sign(38, 0), 0);
        due("0 as itself", room.sign(0, 0), 0);
        due("37 as itself", room.sign(37, 0), 37);
    }

    /** Terms 1: "(Below SIGNS are as they STAND.)" */
    void belowAsTheyStand() {
        GridRoom room = room("1 2 3. 1 2 4. 9 2 3.", "5 6.");
        ruled(room, "consonant last; vowel first;");
        named(room, "kaku 1");
        due("links: 3-4", room.links(CONSONANT, 0), 1);
        due("links: 1-9", room.links(VOWEL, 0), 1);
        room.holds(0, 9, 1, 1);
        room.holds(0, 4, 6, 1);
        due("9 is 1: they have no link", room.links(VOWEL, 0), 0);
        due("6 is 4: it has its class", room.classOf(CONSONANT, 6, 0), 3);
        due("6 is 4: it is there twice", room.often(6, 0, 4), 2);
        due("6 is 4: its CELL", room.given(0, 0, 4), cellOf("ku"));
        due("6 is 4: its CELL", room.given(0, 0, 6), cellOf("ku"));
        due("6 is 4: forced", room.forced(0, 4), cellOf("ku"));
        due("6 is 4: in the grid as 4", room.inGrid(0, cellOf("ku")), 4);
        due("but told as it was told", told(room, 1, 0, 1), 6);
    }
}
