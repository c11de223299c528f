import java.util.NoSuchElementException;

/** Sentences of promises 1 (a new object) to 13 (share). */
public final class PromisesOneEdgesTest extends Edges {
    public static void main(String[] args) throws Exception {
        new PromisesOneEdgesTest().runAll();
    }

    private static int yes(boolean answer) {
        return answer ? 1 : 0;
    }

    /** Promise 1: "No TABLETS, RULES, NAMES; DAY 0; an empty TAPE, nothing OUT." */
    void aNewObject() {
        GridRoom room = new GridRoom();
        for (int what = 0; what < 10; what++) {
            due("count " + what, room.count(what), 0);
        }
        due("no text was read", room.place(), NONE);
        due("no SHARE", room.away(1, 0), false);
        due("no TABLET", told(room, 0, 0, 0), THROWN);
        due("no RULES", room.pairs(0, 1, 2, 0), NONE);
        due("no NAME", room.spelled(0, 0), NONE);
        due("nothing OUT", room.letter(0), NONE);
        due("no TAPE: no NAME", room.fits(0), NONE);
        GridRoom other = someRoom();
        due("another object has its own", other.count(1), 3);
        due("and this one has none still", room.count(1), 0);
        due("nor its DAY", room.count(0), 0);
        due("nor its TAPE", room.count(6), 0);
    }

    // ---- 2: day

    /** Promise 2: "So many DAYS (0 to 1000) go by: the DAY." */
    void daysGoBy() {
        GridRoom room = new GridRoom();
        due("0", room.day(0), 0);
        due("1000", room.day(1000), 1000);
        due("1", room.day(1), 1001);
        due("0 again", room.day(0), 1001);
        due("999", room.day(999), 2000);
        due("the DAY", room.count(0), 2000);
    }

    /** Promise 2: "NONE: another n, it would be above 100000." */
    void daysThatCannotGoBy() {
        refusedFor("day", new int[] {-1, 1001, MIN, MAX}, (r, n) -> r.day(n), NONE);
        refused("to 100001", r -> days(r, 99997), r -> r.day(1), NONE);
        refused("far above", r -> days(r, 99000), r -> r.day(998), NONE);
        GridRoom room = new GridRoom();
        days(room, 99500);
        due("above", room.day(501), NONE);
        due("to the last", room.day(500), 100000);
        due("none more", room.day(0), 100000);
        due("above", room.day(1000), NONE);
        due("another n", room.day(-1), NONE);
        due("known on the last", room.ways(100000), 1);
        due("known on no DAY", room.ways(100001), NONE);
    }

    // ---- 3: feed

    /** Promise 3: "Twenty bytes come behind the TAPE, of each number the highest first: how many it has;" */
    void twentyBytes() {
        GridRoom room = new GridRoom();
        due("20", room.feed(0x3120322E, 0x3320342E, 0x3520362E, 0x3720382E, 0x3920302E), 20);
        due("a TABLET", room.tablet(), 0);
        int[] due = {1, 2, 3, 4, 5, 6, 7, 8, 9, 0};
        for (int i = 0; i < due.length; i++) {
            due("place " + i, told(room, 0, i / 2, i % 2), due[i]);
        }
        room.feed(0x3120322E, 0x20202020, 0x20202020, 0x20202020, 0x20202020);
        room.end(2);
        due("behind the two that are there", room.feed(0x33342E20, 0x20202020, 0x20202020, 0x20202020, 0x20203132), 22);
        due("it goes on there", room.tablet(), WRONG);
        due("at its end", room.place(), 22);
        tape(room, "1 ");
        room.feed(0x33342E20, 0x20202020, 0x20202020, 0x20202020, 0x20202020);
        due("1 34.", room.tablet(), 1);
        due("its 2nd place", told(room, 1, 0, 1), 34);
        // Bytes above 127, of numbers below 0 too, are bytes like others.
        due("20", room.feed(0xB1A0B2AE, -1, MIN, MAX, 0x80FF7F00), 20);
        due("no blank, no figure", room.tablet(), WRONG);
        due("the first", room.place(), 0);
        due("20", room.feed(0x20202031, 0x8020202E, -1, -1, -1), 20);
        due("128", room.tablet(), WRONG);
        due("its place", room.place(), 4);
    }

    /** Promise 3: "NONE if these would be more than 300." */
    void noMoreThanThreeHundred() {
        GridRoom room = new GridRoom();
        for (int i = 1; i <= 15; i++) {
            due("feed " + i, room.feed(i, i, i, i, i), 20 * i);
        }
        due("of 300", room.feed(0, 0, 0, 0, 0), NONE);
        room.end(281);
        due("to 301", room.feed(0, 0, 0, 0, 0), NONE);
        due("none came", room.count(6), 281);
        room.end(280);
        due("to 300", room.feed(0, 0, 0, 0, 0), 300);
        String full = "1 2.".repeat(2) + " ".repeat(273);
        refused("of 281", r -> tape(r, full), r -> r.feed(0x33333333, 0x33333333, 0x33333333, 0x33333333, 0x33333333), NONE);
        refused("of 300", r -> tape(r, full + "  3. 4 4." + " ".repeat(10)), r -> r.feed(-1, -1, -1, -1, -1), NONE);
    }

    // ---- 4: end

    /** Promise 4: "The TAPE has its first n bytes alone: n;" */
    void firstBytesAlone() {
        GridRoom room = room("1.");
        tape(room, "kakuti");
        due("all", room.end(6), 6);
        due("four", room.end(4), 4);
        due("it has four", room.count(6), 4);
        due("the first ones", room.name(0), 0);
        due("the first ones", spelled(room, 0, 0), "ka ku");
        tape(room, "kakuti");
        due("none", room.end(0), 0);
        due("it has none", room.count(6), 0);
        due("none of none", room.end(0), 0);
        tape(room, "kaku");
        room.end(2);
        room.feed(0x74692020, 0, 0, 0, 0);
        room.end(4);
        due("what comes then is behind these", room.name(0), 1);
        due("what comes then is behind these", spelled(room, 1, 0), "ka ti");
    }

    /** Promise 4: "NONE if it has less, or n is below 0." */
    void endThatIsRefused() {
        refusedFor("end", new int[] {5, 6, 300, 301, MAX, -1, MIN}, (r, n) -> r.end(n), NONE);
        refusedFor("end of none", new int[] {1, -1}, (r, n) -> new GridRoom().end(n), NONE);
        refused("end behind another", r -> r.end(3), r -> r.end(4), NONE);
        GridRoom room = new GridRoom();
        tape(room, " ".repeat(300));
        due("301 of 300", room.end(301), NONE);
        due("300 of 300", room.end(300), 300);
    }

    // ---- 5: tablet

    /** Promise 5: "The TAPE (empty then) is a TABLET: its number;" */
    void tapeIsATablet() {
        GridRoom room = new GridRoom();
        tape(room, "1 2. 3.");
        due("the first", room.tablet(), 0);
        due("the TAPE is empty", room.count(6), 0);
        due("an empty TAPE is none", room.tablet(), WRONG);
        due("the second", tablet(room, "4."), 1);
        due("what it says", told(room, 1, 0, 0), 4);
        due("two", room.count(1), 2);
    }

    /** Promise 5: "with a FAULT 1 less than minus its kind (-2 to -4)." */
    void tabletWithAFault() {
        String[] texts = {"x", "40.", "1.1.1.1.1.1.1.1.1."};
        for (int kind = 1; kind <= 3; kind++) {
            GridRoom room = new GridRoom();
            due("kind " + kind, tablet(room, texts[kind - 1]), -1 - kind);
            due("the TAPE is empty", room.count(6), 0);
            due("no TABLET", room.count(1), 0);
            due("the next has number 0", tablet(room, "1."), 0);
        }
    }

    /** Promise 5: "NONE: 24 are there (the TAPE stays)." */
    void tabletBeyondTwentyFour() {
        for (String text : new String[] {"5 6. 7.", "x", "", "ka"}) {
            refused("the 25th: " + text, r -> {
                for (int t = 3; t < 24; t++) {
                    must(tablet(r, "1.") == t, "24 TABLETS");
                }
                r.away(0, 23);
                tape(r, text);
            }, GridRoom::tablet, NONE);
        }
        GridRoom room = new GridRoom();
        for (int t = 0; t < 23; t++) {
            tablet(room, "1.");
        }
        due("the 24th", tablet(room, "2."), 23);
        tape(room, "1 x");
        due("the 25th", room.tablet(), NONE);
        due("the TAPE stays", room.count(6), 3);
        due("it was not read", room.place(), NONE);
        due("what was on the TAPE is read as RULES", room.rules(), WRONG);
    }

    // ---- 6: rules

    /** Promise 6: "The TAPE (empty then) is RULES: how many CLAUSES; with a FAULT likewise." */
    void tapeIsRules() {
        GridRoom room = new GridRoom();
        tape(room, "drop k; drop t;");
        due("two CLAUSES", room.rules(), 2);
        due("the TAPE is empty", room.count(6), 0);
        due("an empty TAPE has none", room.rules(), 0);
        due("twelve", rules(room, "drop k;".repeat(12)), 12);
        due("three RULES", room.count(2), 3);
        String[] texts = {"x", "drop a;", "drop k;".repeat(13)};
        for (int kind = 1; kind <= 3; kind++) {
            due("kind " + kind, rules(room, texts[kind - 1]), -1 - kind);
            due("the TAPE is empty", room.count(6), 0);
            due("three RULES as ever", room.count(2), 3);
        }
    }

    /** Promise 6: "NONE: ten were told (the TAPE stays)." */
    void rulesBeyondTen() {
        for (String text : new String[] {"drop k;", "x", "", "ka"}) {
            refused("the 11th: " + text, r -> {
                for (int i = 1; i < 10; i++) {
                    must(rules(r, "vowel first;") == 1, "ten RULES");
                }
                tape(r, text);
            }, GridRoom::rules, NONE);
        }
        GridRoom room = new GridRoom();
        for (int i = 0; i < 9; i++) {
            rules(room, "");
        }
        due("the tenth", rules(room, "drop k;"), 1);
        tape(room, "1 2.x");
        due("the eleventh", room.rules(), NONE);
        due("the TAPE stays", room.count(6), 5);
        due("it was not read", room.place(), NONE);
        room.end(4);
        due("what was on the TAPE is read as a TABLET", room.tablet(), 0);
    }

    // ---- 7: place

    /** Promise 7: "The place of the FAULT of the latest text that was read;" */
    void placeOfTheLatestFault() {
        GridRoom room = new GridRoom();
        tablet(room, "1 2 x.");
        due("of a TABLET", room.place(), 4);
        due("asked again", room.place(), 4);
        rules(room, "drop a;");
        due("of RULES", room.place(), 5);
        tape(room, "1 2 3");
        due("a TAPE that wasn't read", room.place(), 5);
        room.fits(0);
        room.name(0);
        due("nor by calls that want a NAME", room.place(), 5);
        room.tablet();
        due("the latest", room.place(), 5);
        tablet(room, "1 2 3 4 x");
        due("the latest", room.place(), 8);
        tablet(room, "x");
        due("at the first byte", room.place(), 0);
        tablet(room, " ".repeat(300));
        due("at the end of the longest", room.place(), 300);
    }

    /** Promise 7: "NONE without one." */
    void placeWithoutAFault() {
        GridRoom room = new GridRoom();
        due("no text yet", room.place(), NONE);
        tablet(room, "x");
        tablet(room, "1.");
        due("a TABLET without one", room.place(), NONE);
        rules(room, "x");
        rules(room, "");
        due("RULES without one", room.place(), NONE);
        tablet(room, "x");
        rules(room, "drop k;");
        due("RULES behind a TABLET", room.place(), NONE);
    }

    // ---- 8: away

    /** Promise 8: "A TABLET (what 0), a SHARE (1), a NAME (2) is put away." */
    void putAway() {
        GridRoom room = room("1. 2.", "3. 4. 5.");
        named(room, "ka 0", "ku 1");
        room.share(CONSONANT, 10, 11, true);
        room.share(CONSONANT, 12, 13, true);
        room.day(1);
        due("a SHARE", room.away(1, 1), true);
        due("one LINK", room.links(CONSONANT, 1), 1);
        due("the other one's", room.classOf(CONSONANT, 11, 1), 10);
        due("a NAME", room.away(2, 1), true);
        due("the other one's WAYS", room.ways(1), 2);
        due("one NAME that COUNTS", room.count(9), 1);
        due("a TABLET", room.away(0, 0), true);
        due("without it", room.ways(1), 1);
        due("one TABLET that COUNTS", room.count(8), 1);
        due("two TABLETS were told", room.count(1), 2);
        due("two SHARES were told", room.count(3), 2);
        due("two NAMES were told", room.count(4), 2);
        due("on the DAY before", room.ways(0), 6);
        due("on the DAY before", room.links(CONSONANT, 0), 2);
    }

    /** Promise 8: "False: no such one, it is already." */
    void putAwayRefused() {
        for (int what = 0; what < 3; what++) {
            int kind = what;
            int[] none = {what == 0 ? 3 : 2, -1, 24, 60, MIN, MAX};
            refusedFor("what " + what + ", number", none, (r, k) -> yes(r.away(kind, k)), 0);
        }
        refusedFor("what", new int[] {-1, 3, 4, MIN, MAX}, (r, what) -> yes(r.away(what, 0)), 0);
        refused("a TABLET again", r -> r.away(0, 2), r -> yes(r.away(0, 2)), 0);
        refused("a SHARE again", r -> r.away(1, 1), r -> yes(r.away(1, 1)), 0);
        refused("a NAME again", r -> r.away(2, 0), r -> yes(r.away(2, 0)), 0);
        refused("on a later DAY again", r -> {
            r.away(0, 0);
            r.day(4);
        }, r -> yes(r.away(0, 0)), 0);
        refused("one put away on an earlier DAY", r -> { }, r -> yes(r.away(1, 0)), 0);
        GridRoom room = new GridRoom();
        for (int what = 0; what < 3; what++) {
            due("nothing there yet: " + what, room.away(what, 0), false);
        }
    }

    // ---- 9: trust

    /** Promise 9: "TRUST of a HAND." */
    void trustOfAHand() {
        GridRoom room = new GridRoom();
        room.holds(0, 1, 2, 1);
        room.holds(3, 1, 2, 0);
        due("HAND 0", room.trust(0, 50), true);
        due("50 against 10", room.sign(2, 0), 1);
        due("HAND 3", room.trust(3, 50), true);
        due("50 against 50", room.sign(2, 0), 2);
        due("the same again", room.trust(3, 50), true);
        due("99", room.trust(0, 99), true);
        due("99 against 50", room.sign(2, 0), 1);
        due("0", room.trust(0, 0), true);
        due("0 against 50", room.sign(2, 0), 2);
    }

    /** Promise 9: "False: no such one, another number." */
    void trustRefused() {
        refusedFor("HAND", new int[] {-1, 4, MIN, MAX}, (r, hand) -> yes(r.trust(hand, 0)), 0);
        refusedFor("number", new int[] {-1, 100, MIN, MAX}, (r, v) -> yes(r.trust(1, v)), 0);
    }

    // ---- 10: holds

    /** Promise 10: "A HAND holds two unlike SIGNS for something (0 to 2)." */
    void aHandHolds() {
        GridRoom room = new GridRoom();
        due("the first HAND, the ends", room.holds(0, 0, 39, 1), true);
        due("they are ONE", room.sign(39, 0), 0);
        due("the last HAND, the other way round", room.holds(3, 39, 0, 0), true);
        due("they are two", room.sign(39, 0), 39);
        due("2", room.holds(3, 0, 39, 2), true);
        due("they are ONE again", room.sign(39, 0), 0);
        due("two that are ONE are unlike SIGNS still", room.holds(1, 0, 39, 1), true);
        due("four were told", room.count(5), 4);
        due("the same again is told again", room.holds(1, 0, 39, 1), true);
        due("five were told", room.count(5), 5);
    }

    /** Promise 10: "False: no such ones, 200 were told." */
    void aHandHoldsRefused() {
        refusedFor("HAND", new int[] {-1, 4, MIN, MAX}, (r, hand) -> yes(r.holds(hand, 1, 2, 1)), 0);
        refusedFor("first SIGN", NO_SIGNS, (r, s) -> yes(r.holds(0, s, 2, 1)), 0);
        refusedFor("second SIGN", NO_SIGNS, (r, s) -> yes(r.holds(0, 2, s, 1)), 0);
        refusedFor("like SIGNS", new int[] {0, 3, 39, -1, 40}, (r, s) -> yes(r.holds(0, s, s, 1)), 0);
        refusedFor("for", new int[] {-1, 3, MIN, MAX}, (r, v) -> yes(r.holds(0, 1, 2, v)), 0);
        for (int v = 0; v < 3; v++) {
            int last = v;
            refused("the 201st", r -> {
                for (int i = 1; i < 200; i++) {
                    must(r.holds(i % 4, 20, 21, i % 3), "200");
                }
            }, r -> yes(r.holds(0, 1, 2, last)), 0);
        }
    }

    // ---- 11: sign

    /** Promise 11: "As which SIGN a SIGN STANDS as known on a DAY (0 to the one at hand, here and below)." */
    void signAsItStands() {
        GridRoom room = new GridRoom();
        room.day(1);
        room.holds(0, 39, 0, 1);
        room.day(1);
        int[] due = {39, 0, 0, NONE};
        for (int known = 0; known < due.length; known++) {
            due("39 on DAY " + known, room.sign(39, known), due[known]);
        }
        room.holds(0, 39, 0, 0);
        due("on the DAY at hand", room.sign(39, 2), 39);
        due("on the DAY before as ever", room.sign(39, 1), 0);
    }

    /** Promise 11: "NONE: no such ones." */
    void signRefused() {
        refusedFor("SIGN", NO_SIGNS, (r, s) -> r.sign(s, 3), NONE);
        refusedForDays("sign", (r, known) -> r.sign(0, known));
    }

    // ---- 12: told

    /** Promise 12: "Place i of WORD w of a TABLET, as it was told (a SIGN; NONE: it can't be read)." */
    void placesAsTold() {
        GridRoom room = room("0 39 ?. ?.", "1 2 3 4 5 ?.".repeat(8));
        int[] due = {0, 39, NONE};
        for (int i = 0; i < due.length; i++) {
            due("place " + i, told(room, 0, 0, i), due[i]);
        }
        due("the 2nd WORD", told(room, 0, 1, 0), NONE);
        due("the 8th WORD", told(room, 1, 7, 4), 5);
        due("its last place", told(room, 1, 7, 5), NONE);
        room.holds(0, 39, 1, 1);
        due("as it was told, though it STANDS as 1", told(room, 0, 0, 1), 39);
        room.day(1);
        room.away(0, 0);
        due("of one that was put away", told(room, 0, 0, 1), 39);
    }

    /** Promise 12: "NoSuchElementException: there is none such." */
    void placesThatThereAreNot() {
        refusedFor("TABLET", NO_TABLETS, (r, t) -> thrown(r, t, 0, 0), 1);
        refusedFor("WORD", new int[] {4, -1, 8, MIN, MAX}, (r, w) -> thrown(r, 0, w, 0), 1);
        refusedFor("place", new int[] {3, -1, 6, MIN, MAX}, (r, i) -> thrown(r, 0, 0, i), 1);
        refusedFor("place of the last WORD", new int[] {2, -1}, (r, i) -> thrown(r, 0, 3, i), 1);
        due("the last place that there is", thrown(someRoom(), 0, 3, 1), 0);
        due("none in a new room", thrown(new GridRoom(), 0, 0, 0), 1);
        GridRoom full = room("1 2 3 4 5 6.".repeat(8));
        due("the last that there can be", thrown(full, 0, 7, 5), 0);
        due("beyond the last WORD", thrown(full, 0, 8, 0), 1);
        due("beyond the last place", thrown(full, 0, 7, 6), 1);
        due("beyond the place that another WORD begins with", thrown(full, 0, 0, 6), 1);
        due("ahead of a WORD", thrown(full, 0, 1, -1), 1);
    }

    private static int thrown(GridRoom room, int tablet, int w, int i) {
        try {
            room.told(tablet, w, i);
            return 0;
        } catch (NoSuchElementException e) {
            return 1;
        }
    }

    // ---- 13: share

    /** Promise 13: "A SHARE of a SORT (0 consonant, 1 vowel): its number." */
    void aShare() {
        GridRoom room = new GridRoom();
        due("of consonant", room.share(0, 0, 39, true), 0);
        due("of vowel", room.share(1, 39, 1, true), 1);
        due("that they do not", room.share(1, 2, 3, false), 2);
        due("the same again", room.share(1, 2, 3, false), 3);
        due("links of consonant", room.links(0, 0), 1);
        due("links of vowel", room.links(1, 0), 1);
        due("of consonant: 0 and 39", room.classOf(0, 39, 0), 0);
        due("of vowel: 1 and 39", room.classOf(1, 39, 0), 1);
        room.away(1, 3);
        due("a number is not used again", room.share(0, 4, 5, true), 4);
        room.holds(0, 6, 7, 1);
        due("of two that are ONE but are unlike SIGNS", room.share(0, 6, 7, true), 5);
    }

    /** Promise 13: "NONE: no such SORT, SIGNS, they are one, 60 were told." */
    void aShareRefused() {
        refusedFor("SORT", NO_SORTS, (r, sort) -> r.share(sort, 1, 2, true), NONE);
        refusedFor("first SIGN", NO_SIGNS, (r, s) -> r.share(0, s, 2, true), NONE);
        refusedFor("second SIGN", NO_SIGNS, (r, s) -> r.share(1, 2, s, false), NONE);
        refusedFor("one SIGN", new int[] {0, 7, 39, -1, 40}, (r, s) -> r.share(0, s, s, true), NONE);
        refused("the 61st", r -> {
            for (int i = 2; i < 60; i++) {
                must(r.share(i % 2, 20, 21, i % 3 == 0) == i, "60");
            }
        }, r -> r.share(0, 1, 2, true), NONE);
        GridRoom room = new GridRoom();
        for (int i = 0; i < 59; i++) {
            room.share(0, 1, 2, true);
        }
        due("the 60th", room.share(0, 3, 4, true), 59);
        due("the 61st", room.share(0, 5, 6, true), NONE);
        due("by the 60th, not the 61st", room.links(0, 0), 2);
    }
}
