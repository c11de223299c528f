/** Sentences of "Terms", part 2: TEXTS and their FAULTS. */
public final class TermsTwoEdgesTest extends Edges {
    private static final String TWELVE = "drop k;".repeat(12);

    public static void main(String[] args) throws Exception {
        new TermsTwoEdgesTest().runAll();
    }

    /** Terms 2: "TEXTS have at most 300 bytes." */
    void threeHundredBytes() {
        GridRoom room = new GridRoom();
        due("a TABLET of 300 bytes", tablet(room, "1." + " ".repeat(296) + "2."), 0);
        due("read to its last byte", told(room, 0, 1, 0), 2);
        due("RULES of 300 bytes", rules(room, "drop k;" + "\n".repeat(286) + "drop t;"), 2);
        tape(room, " ".repeat(300));
        due("no byte more", room.feed(0, 0, 0, 0, 0), NONE);
        due("300 blanks are no TABLET", room.tablet(), WRONG);
        due("the end is at 300", room.place(), 300);
        tape(room, " ".repeat(300));
        due("300 blanks are RULES without CLAUSES", room.rules(), 0);
        due("a TABLET that lacks its 301st byte", tablet(room, " ".repeat(299) + "1"), WRONG);
        due("the end is at 300", room.place(), 300);
    }

    /** Terms 2: "TOKENS, blanks (32, 10) between where one likes:" */
    void blanks() {
        goodTablet("1 2.3.");
        goodTablet("  \n1\n\n2 \n . 3\n.\n ");
        goodTablet("1?2.");
        goodRules("consonant first length 2 count 1;", 1);
        goodRules("\n consonant\nfirst\n\nlength 2\ncount\n1\n; \n", 1);
        goodRules("consonant 1length2count1;vowel last;", 2);
        goodRules("consonant1length 2count 1;", 1);
        for (int b = 0; b < 256; b++) {
            boolean isBlank = b == 32 || b == 10;
            if (b < '0' || b > '9') {
                GridRoom room = new GridRoom();
                int due = isBlank || b == '?' || b == '.' ? 0 : WRONG;
                due("byte " + b + " between places", tablet(room, "1" + (char) b + "2."), due);
                room = new GridRoom();
                due("byte " + b + " ahead of a CLAUSE", rules(room, (char) b + "drop k;"), isBlank ? 1 : WRONG);
                due("its place", room.place(), isBlank ? NONE : 0);
            }
        }
    }

    /** Terms 2: "WORDS (small letters, as many as stand together)," */
    void words() {
        badRules("dropk;", WRONG, 0);
        badRules("consonantfirst;", WRONG, 0);
        badRules("vowel firstcount 2;", WRONG, 6);
        badRules("vowel first counts 2;", WRONG, 12);
        badRules("vow el first;", WRONG, 0);
        badRules("write a ase;", WRONG, 8);
        badRules("write aas e;", WRONG, 6);
        goodRules("drop z;", 1);
        goodRules("drop b;", 1);
        badRules("drop {;", WRONG, 5);
        badRules("drop `;", WRONG, 5);
        badRules("drop K;", WRONG, 5);
        badRules("drop Z;", WRONG, 5);
        badRules("drop k`;", WRONG, 6);
        badRules("drop k{;", WRONG, 6);
        badRules("DROP k;", WRONG, 0);
        badRules("dRop k;", WRONG, 0);
        badTablet("a.", WRONG, 0);
        badTablet("1 abc.", WRONG, 2);
        String[][] words = {{"consonant", "# first;"}, {"vowel", "# first;"}, {"write", "# k as t;"}, {"drop", "# k;"},
            {"first", "vowel #;"}, {"last", "vowel #;"}, {"length", "vowel 1 # 2;"}, {"count", "vowel 1 # 2;"}, {"as", "write k # t;"}};
        for (String[] one : words) {
            goodRules(one[1].replace("#", one[0]), 1);
            for (int i = 0; i < one[0].length(); i++) {
                String ahead = one[0].substring(0, i);
                String behind = one[0].substring(i + 1);
                badRules(one[1].replace("#", ahead + "q" + behind), WRONG, one[1].indexOf('#'));
                badRules(one[1].replace("#", ahead + behind), WRONG, one[1].indexOf('#'));
            }
        }
    }

    /** Terms 2: "N (figures likewise, 1 or 2)," */
    void figures() {
        GridRoom room = room("3 9. 39. 03. 0 3. 00. 09.");
        int[][] due = {{3, 9}, {39}, {3}, {0, 3}, {0}, {9}};
        for (int w = 0; w < due.length; w++) {
            for (int i = 0; i <= due[w].length; i++) {
                due("place " + w + " " + i, told(room, 0, w, i), i < due[w].length ? due[w][i] : THROWN);
            }
        }
        badTablet("/.", WRONG, 0);
        badTablet(":.", WRONG, 0);
        badTablet("1/.", WRONG, 1);
        badTablet("1:.", WRONG, 1);
        badTablet("-1.", WRONG, 0);
        badTablet("+1.", WRONG, 0);
        goodRules("vowel 1 length 2 count 9;", 1);
        goodRules("vowel 01 length 02 count 99;", 1);
        badRules("vowel 001;", WRONG, 6);
        badRules("vowel 1 length 002;", WRONG, 15);
        badRules("vowel 1 count 001;", WRONG, 14);
        badRules("vowel 0 1;", CANNOT_BE, 6);
    }

    /** Terms 2: "all other bytes one by one." */
    void otherBytes() {
        GridRoom room = room("???.??.");
        due("three places", told(room, 0, 0, 2), NONE);
        due("no more", told(room, 0, 0, 3), THROWN);
        due("two places", told(room, 0, 1, 1), NONE);
        due("no more", told(room, 0, 1, 2), THROWN);
        badTablet("1..", WRONG, 2);
        badTablet("1.?", WRONG, 3);
        badTablet("1##.", WRONG, 1);
        badRules("drop k;;", WRONG, 7);
        badRules("drop k; ;", WRONG, 8);
    }

    /** Terms 2: "TABLET: ROW . { ROW . }, at most 8." */
    void rowsOfATablet() {
        goodTablet("1.");
        goodTablet("1.2.3.4.5.6.7.8.");
        goodTablet("1.2.3.4.5.6.7.8. \n");
        badTablet("1.2.3.4.5.6.7.8.9.", TOO_MANY, 16);
        badTablet("", WRONG, 0);
        badTablet("1", WRONG, 1);
        badTablet("1.2", WRONG, 3);
        badTablet("1.2.3.4.5.6.7.8", WRONG, 15);
        badTablet("1;", WRONG, 1);
        badTablet(".1.", WRONG, 0);
        badTablet("1.2.3.4.5.6.7.8..", WRONG, 16);
    }

    /** Terms 2: "ROW: PLACE { PLACE }, at most 6: N or ? ." */
    void placesOfARow() {
        goodTablet("?.");
        goodTablet("0.");
        goodTablet("1 2 3 4 5 6.");
        goodTablet("??????.");
        goodTablet("? 1 ? 2 ? 3.1 2 3 4 5 ?.");
        badTablet("1 2 3 4 5 6 7.", TOO_MANY, 12);
        badTablet("???????.", TOO_MANY, 6);
        badTablet("1.1 2 3 4 5 6 ?.", TOO_MANY, 14);
        badTablet(".", WRONG, 0);
        badTablet("1 x.", WRONG, 2);
        badTablet("1 ! 2.", WRONG, 2);
        badTablet("1 2 3 4 5 6", WRONG, 11);
        badTablet("1 2 3 4 5 6 x.", WRONG, 12);
    }

    /** Terms 2: "RULES: { CLAUSE ; }, at most 12:" */
    void clausesOfRules() {
        goodRules("", 0);
        goodRules("drop k;", 1);
        goodRules("drop k;".repeat(11), 11);
        goodRules(TWELVE, 12);
        goodRules(TWELVE + " \n ", 12);
        goodRules("vowel 1;consonant 2;write a as e;drop k;".repeat(3), 12);
        badRules(TWELVE + "drop k;", TOO_MANY, 84);
        badRules("drop k", WRONG, 6);
        badRules("drop k.", WRONG, 6);
        badRules("drop k drop t;", WRONG, 7);
        badRules(";", WRONG, 0);
        badRules(TWELVE + ";", WRONG, 84);
    }

    /** Terms 2: "SORT WHERE [ length N ] [ count N ]" */
    void clauseOfASort() {
        goodRules("vowel first;", 1);
        goodRules("vowel first length 4;", 1);
        goodRules("vowel first count 4;", 1);
        goodRules("vowel first length 4 count 4;", 1);
        badRules("vowel;", WRONG, 5);
        badRules("vowel length 4;", WRONG, 6);
        badRules("vowel first count 4 length 4;", WRONG, 20);
        badRules("vowel first length 4 length 4;", WRONG, 21);
        badRules("vowel first count 4 count 4;", WRONG, 20);
        badRules("vowel first length;", WRONG, 18);
        badRules("vowel first length count 4;", WRONG, 19);
        badRules("vowel first count;", WRONG, 17);
        badRules("vowel first count first;", WRONG, 18);
        badRules("vowel first 4;", WRONG, 12);
        badRules("vowel first length 4 4;", WRONG, 21);
        badRules("vowel first length 4 count 4 4;", WRONG, 29);
        badRules("vowel first length", WRONG, 18);
        badRules("vowel first length 4", WRONG, 20);
        badRules("vowel first count 4 ", WRONG, 20);
    }

    /** Terms 2: "| write LETTER as LETTER" */
    void clauseThatWrites() {
        goodRules("write k as t;", 1);
        goodRules("write a as a;", 1);
        badRules("write;", WRONG, 5);
        badRules("write k;", WRONG, 7);
        badRules("write k t;", WRONG, 8);
        badRules("write k as;", WRONG, 10);
        badRules("write k as t u;", WRONG, 13);
        badRules("write as as as;", WRONG, 6);
        badRules("write", WRONG, 5);
        badRules("write k", WRONG, 7);
        badRules("write k as", WRONG, 10);
        badRules("write k as t", WRONG, 12);
    }

    /** Terms 2: "| drop LETTER." */
    void clauseThatDrops() {
        goodRules("drop k;", 1);
        badRules("drop;", WRONG, 4);
        badRules("drop", WRONG, 4);
        badRules("drop k t;", WRONG, 7);
        badRules("drop drop;", WRONG, 5);
        badRules("drop 1;", WRONG, 5);
        badRules("drop k length 3;", WRONG, 7);
    }

    /** Terms 2: "SORT: consonant, vowel." */
    void sorts() {
        GridRoom room = ruled(room("1 2 3. 1 2 4. 5 2 3."), "consonant last;vowel first;");
        due("of consonant", room.links(CONSONANT, 0), 1);
        due("of consonant: 3, 4", room.classOf(CONSONANT, 4, 0), 3);
        due("of vowel", room.links(VOWEL, 0), 1);
        due("of vowel: 1, 5", room.classOf(VOWEL, 5, 0), 1);
        badRules("consonants last;", WRONG, 0);
        badRules("consonan last;", WRONG, 0);
        badRules("vowels last;", WRONG, 0);
        badRules("vowe last;", WRONG, 0);
        badRules("sort last;", WRONG, 0);
        badRules("0 last;", WRONG, 0);
    }

    /** Terms 2: "WHERE: first, last, N." */
    void wheres() {
        goodRules("vowel first;vowel last;vowel 1;vowel 6;", 4);
        badRules("vowel second;", WRONG, 6);
        badRules("vowel firs;", WRONG, 6);
        badRules("vowel lasts;", WRONG, 6);
        badRules("vowel ?;", WRONG, 6);
        badRules("vowel", WRONG, 5);
        badRules("vowel as;", WRONG, 6);
    }

    /** Terms 2: "LETTER: a WORD of one letter." */
    void letters() {
        goodRules("write b as z;", 1);
        badRules("write bb as z;", WRONG, 6);
        badRules("write b as zz;", WRONG, 11);
        badRules("write 1 as z;", WRONG, 6);
        badRules("write b as 1;", WRONG, 11);
        badRules("write ? as z;", WRONG, 6);
        badRules("drop bb;", WRONG, 5);
        badRules("drop aa;", WRONG, 5);
        badRules("drop ?;", WRONG, 5);
    }

    /** Terms 2: "FAULTS, the first along the text, of one place the least:" */
    void theFirstFault() {
        badTablet("40 x.", CANNOT_BE, 0);
        badTablet("x 40.", WRONG, 0);
        badTablet("1 40 2 3 4 5 6.", CANNOT_BE, 2);
        badTablet("1 2 3 4 5 6 7 x 40", TOO_MANY, 12);
        badTablet("1 2 3 4 5 40 7.", CANNOT_BE, 10);
        badTablet("1.".repeat(7) + "1 40." + "1.", CANNOT_BE, 16);
        badRules("vowel 0 length 9;", CANNOT_BE, 6);
        badRules("vowel 1 length 9 count 0 x", CANNOT_BE, 15);
        badRules("write bb as a;", WRONG, 6);
        badRules("drop a x", CANNOT_BE, 5);
        badRules("drop k;".repeat(11) + "drop a;drop k;", CANNOT_BE, 82);
        // One place with two kinds: the least.
        badTablet("400.", WRONG, 0);
        badRules("vowel 100;", WRONG, 6);
        badRules("vowel 000;", WRONG, 6);
        badRules("vowel 1 length 100;", WRONG, 15);
        badRules("vowel 1 count 000;", WRONG, 14);
        badTablet("1 2 3 4 5 6 123.", WRONG, 12);
        badTablet("1.".repeat(8) + "123.", WRONG, 16);
    }

    /** Terms 2: "1 a byte or TOKEN with which no text goes on" */
    void nothingGoesOnWithIt() {
        for (int b = 0; b < 256; b++) {
            GridRoom room = new GridRoom();
            boolean goesOn = b == ' ' || b == '\n' || b == '?' || b >= '0' && b <= '9';
            due("a TABLET with byte " + b, tablet(room, "" + (char) b), WRONG);
            due("its place", room.place(), goesOn ? 1 : 0);
            room = new GridRoom();
            due("a CLAUSE with byte " + b, rules(room, "drop k" + (char) b), b == ';' ? 1 : WRONG);
            boolean isLetter = b >= 'a' && b <= 'z';
            due("its place", room.place(), b == ';' ? NONE : b == ' ' || b == '\n' ? 7 : isLetter ? 5 : 6);
        }
        badRules("first vowel;", WRONG, 0);
        badRules("vowel write;", WRONG, 6);
        badRules("vowel first write a as e;", WRONG, 12);
        badRules("drop k; as", WRONG, 8);
    }

    /** Terms 2: "(more than 2 figures: at the first one;" */
    void threeFigures() {
        goodTablet("11.");
        badTablet("111.", WRONG, 0);
        badTablet("1 000.", WRONG, 2);
        badTablet("1.  1234567890123456789012345678901234567890.", WRONG, 4);
        badRules("vowel 111;", WRONG, 6);
        badRules("vowel 1 length 0002;", WRONG, 15);
        badRules("111", WRONG, 0);
        badRules("vowel last count 4294967297;", WRONG, 17);
        // Though 46, 59 and 63 are the numbers of . ; and ?
        badTablet("1 046 2.", WRONG, 2);
        badTablet("063.", WRONG, 0);
        badRules("drop k 059", WRONG, 7);
    }

    /** Terms 2: "the end: at how many bytes there are);" */
    void theEnd() {
        badTablet("", WRONG, 0);
        badTablet(" \n ", WRONG, 3);
        badTablet("1", WRONG, 1);
        badTablet("11", WRONG, 2);
        badTablet("1 2  ", WRONG, 5);
        badTablet("1.2.3 \n", WRONG, 7);
        badRules("vowel", WRONG, 5);
        badRules("vowel   ", WRONG, 8);
        badRules("drop k; drop t\n", WRONG, 15);
        GridRoom room = new GridRoom();
        tape(room, "1 2.34567");
        room.end(5);
        due("cut behind a figure", room.tablet(), WRONG);
        due("the end is there", room.place(), 5);
        tape(room, "drop kt;");
        room.end(6);
        due("cut within a WORD", room.rules(), WRONG);
        due("the end is there", room.place(), 6);
    }

    /** Terms 2: "2 an N that can't be: of a PLACE above 39," */
    void placeAboveThirtyNine() {
        goodTablet("39.");
        badTablet("40.", CANNOT_BE, 0);
        badTablet("99.", CANNOT_BE, 0);
        badTablet("1. 2 40.", CANNOT_BE, 5);
        badTablet("1 2 3 4 5 40.", CANNOT_BE, 10);
        badTablet("1.".repeat(7) + "40.", CANNOT_BE, 14);
    }

    /** Terms 2: "of WHERE 0 or above 6," */
    void whereZeroOrAboveSix() {
        goodRules("vowel 1;consonant 6;vowel 06;", 3);
        badRules("vowel 0;", CANNOT_BE, 6);
        badRules("vowel 00;", CANNOT_BE, 6);
        badRules("vowel 7;", CANNOT_BE, 6);
        badRules("consonant 99;", CANNOT_BE, 10);
    }

    /** Terms 2: "of length below 2 or above 6," */
    void lengthBelowTwoOrAboveSix() {
        goodRules("vowel last length 2;vowel last length 6;", 2);
        badRules("vowel last length 0;", CANNOT_BE, 18);
        badRules("vowel last length 1;", CANNOT_BE, 18);
        badRules("vowel last length 7;", CANNOT_BE, 18);
        badRules("vowel last length 60;", CANNOT_BE, 18);
        // A WHERE that ROWS of that length don't have is no FAULT.
        goodRules("vowel 6 length 2;", 1);
    }

    /** Terms 2: "of count 0;" */
    void countZero() {
        goodRules("vowel last count 1;vowel last count 99;", 2);
        badRules("vowel last count 0;", CANNOT_BE, 17);
        badRules("vowel last count 00;", CANNOT_BE, 17);
        badRules("vowel last length 3 count 0;", CANNOT_BE, 26);
    }

    /** Terms 2: "a LETTER to be written that is a vowel while its other one isn't," */
    void vowelWrittenAsNone() {
        for (char x = 'a'; x <= 'z'; x++) {
            for (char y : "aeiou".toCharArray()) {
                String text = "write " + y + " as " + x + ";";
                if ("aeiou".indexOf(x) >= 0) {
                    goodRules(text, 1);
                } else {
                    badRules(text, CANNOT_BE, 11);
                }
            }
        }
    }

    /** Terms 2: "or isn't while its other one is (at the second one);" */
    void noVowelWrittenAsOne() {
        for (char x = 'a'; x <= 'z'; x++) {
            for (char y : "bdfhjnptvz".toCharArray()) {
                String text = "write  " + y + "  as  " + x + ";";
                if ("aeiou".indexOf(x) >= 0) {
                    badRules(text, CANNOT_BE, 14);
                } else {
                    goodRules(text, 1);
                }
            }
        }
    }

    /** Terms 2: "a LETTER to be dropped that is a vowel;" */
    void vowelDropped() {
        for (char x = 'a'; x <= 'z'; x++) {
            if ("aeiou".indexOf(x) >= 0) {
                badRules("drop " + x + ";", CANNOT_BE, 5);
            } else {
                goodRules("drop " + x + ";", 1);
            }
        }
    }

    /** Terms 2: "3 as a 9th ROW," */
    void ninthRow() {
        badTablet("1.".repeat(8) + "1.", TOO_MANY, 16);
        badTablet("1.".repeat(8) + "?", TOO_MANY, 16);
        badTablet("1.".repeat(8) + " \n 1", TOO_MANY, 19);
        badTablet("1.".repeat(8) + "x", WRONG, 16);
        badTablet("1.".repeat(8) + ".", WRONG, 16);
        goodTablet("1.".repeat(8) + " \n");
    }

    /** Terms 2: "7th PLACE," */
    void seventhPlace() {
        badTablet("1 1 1 1 1 1 1", TOO_MANY, 12);
        badTablet("1 1 1 1 1 1?", TOO_MANY, 11);
        badTablet("1 1 1 1 1 1\n\n1.", TOO_MANY, 13);
        badTablet("1.".repeat(7) + "1 1 1 1 1 1 1.", TOO_MANY, 26);
        badTablet("1 1 1 1 1 1 x", WRONG, 12);
        goodTablet("1 1 1 1 1 1 .");
    }

    /** Terms 2: "13th CLAUSE begins" */
    void thirteenthClause() {
        badRules(TWELVE + "drop k;", TOO_MANY, 84);
        badRules(TWELVE + "write", TOO_MANY, 84);
        badRules(TWELVE + " vowel;", TOO_MANY, 85);
        badRules(TWELVE + "\nconsonant", TOO_MANY, 85);
        badRules(TWELVE + "first", WRONG, 84);
        badRules(TWELVE + "d", WRONG, 84);
        badRules(TWELVE + "1", WRONG, 84);
        badRules(TWELVE + ".", WRONG, 84);
    }

    /** Terms 2: "(whatever number stands there: ahead of 2)." */
    void tooManyAheadOfCannotBe() {
        badTablet("1 2 3 4 5 6 40.", TOO_MANY, 12);
        badTablet("1 2 3 4 5 6 99", TOO_MANY, 12);
        badTablet("1 2 3 4 5 6 0.", TOO_MANY, 12);
        badTablet("1.".repeat(8) + "40.", TOO_MANY, 16);
        badTablet("1.".repeat(8) + "99", TOO_MANY, 16);
        badTablet("1.".repeat(8) + "39.", TOO_MANY, 16);
        badRules(TWELVE + "vowel 0;", TOO_MANY, 84);
        badRules(TWELVE + "drop a;", TOO_MANY, 84);
    }

    /** Terms 2: "A text with a FAULT changes nothing." */
    void aFaultChangesNothing() {
        String[] tablets = {"1 2 3. 9 9", "8 8. 40.", "7.".repeat(9), "1 2 3 4 5 6 7.", "", "5 5 5. 5 5 5 ?. x"};
        for (String text : tablets) {
            GridRoom plain = someRoom();
            GridRoom tried = someRoom();
            must(tablet(tried, text) < NONE, text);
            readAlike(text, plain, tried);
        }
        String[] rules = {"drop k; drop t", "vowel last; vowel 7;", TWELVE + "drop k;", "write k as t; write a as k;",
            "vowel last length 2 count 1; drop r; drop x; drop y; drop a;", "x", "vowel first length 6 count 99; drop t; x"};
        for (String text : rules) {
            GridRoom plain = someRoom();
            GridRoom tried = someRoom();
            must(rules(tried, text) < NONE, text);
            readAlike(text, plain, tried);
        }
    }

    /** The TAPE is empty, and what was read last is the same: then all is. */
    private void readAlike(String text, GridRoom plain, GridRoom tried) {
        must(tablet(plain, "1.") == 3 && tablet(tried, "1.") == 3, text);
        must(rules(plain, "vowel last;") == 1 && rules(tried, "vowel last;") == 1, text);
        due(text + ": another CLAUSE", tried.pairs(1, 1, 2, 3), NONE);
        must(name(plain, "akt", 0) == 2 && name(tried, "akt", 0) == 2, text);
        due(text + ": another CLAUSE", spelled(tried, 2, 3), "a ka ta");
        due(text + ": another place, length, count", tried.pairs(0, 3, 4, 3), 1);
        due(text + ": another place, length, count", tried.links(VOWEL, 3), 1);
        due(text + ": another ROW", told(tried, 3, 1, 0), THROWN);
        due(text + ": another place", told(tried, 3, 0, 1), THROWN);
        alike(text, plain, tried);
    }

    /** Terms 2: "(Vowels are a, e, i, o, u.)" */
    void vowels() {
        GridRoom room = room("1.");
        for (char x = 'a'; x <= 'z'; x++) {
            GridRoom one = named(room("1."), x + " 0");
            int vowel = "aeiou".indexOf(x);
            due("CELLS of " + x, one.spelled(0, 0), vowel >= 0 ? 1 : 0);
            due("CELL of " + x, one.cell(0, 0, 0), vowel);
        }
        named(room, "y 0", "w 0");
        due("y is none", room.spelled(0, 0), 0);
        due("w is none", room.spelled(1, 0), 0);
    }

    /** Terms 2: "RULES, at most 10, are told on the DAY at hand;" */
    void tenRules() {
        GridRoom room = room("1.");
        named(room, "ak 0");
        for (int i = 0; i < 9; i++) {
            due("RULES " + i, rules(room, "drop t;"), 1);
        }
        due("RULES with a FAULT are none of the ten", rules(room, "drop"), WRONG);
        room.day(2);
        due("the tenth", rules(room, "drop k;"), 1);
        due("the eleventh", rules(room, "drop t;"), NONE);
        due("the eleventh, with a FAULT", rules(room, "drop"), NONE);
        due("the eleventh, empty", rules(room, ""), NONE);
        due("ten were told", room.count(2), 10);
        due("on the DAY before the tenth", room.spelled(0, 1), 2);
        due("on the DAY of the tenth", room.spelled(0, 2), 1);
    }

    /** Terms 2: "as known on a DAY the last told by then count" */
    void theLastRulesCount() {
        GridRoom room = named(room("1."), "akt 0");
        room.day(1);
        rules(room, "drop k;drop t;");
        room.day(2);
        rules(room, "write k as r;");
        rules(room, "drop t;");
        room.day(2);
        rules(room, "");
        String[] due = {"a ka ta", "a", "a", "a ka", "a ka", "a ka ta"};
        for (int known = 0; known < due.length; known++) {
            due("on DAY " + known, spelled(room, 0, known), due[known]);
        }
    }

    /** Terms 2: "(without any an empty text)." */
    void withoutRules() {
        GridRoom room = named(room("1 2 3. 1 2 4."), "akl 0");
        due("no CLAUSE", room.pairs(0, 3, 4, 0), NONE);
        due("no LINKS", room.links(CONSONANT, 0), 0);
        due("no LINKS", room.links(VOWEL, 0), 0);
        due("each letter as itself", spelled(room, 0, 0), "a ka la");
        room.day(1);
        rules(room, "vowel last; drop l;");
        due("with some", room.links(VOWEL, 1), 1);
        due("without any on the DAY before", room.links(VOWEL, 0), 0);
        due("without any on the DAY before", room.pairs(0, 3, 4, 0), NONE);
        due("without any on the DAY before", spelled(room, 0, 0), "a ka la");
    }
}
