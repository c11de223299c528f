import java.util.Arrays;
import java.util.NoSuchElementException;

/**
 * A room for a writing that nobody reads yet: tablets of words in signs, rules that tell which
 * signs share a consonant or a vowel, and names that must be some word of a tablet.
 *
 * <p>Everything that a call works with is made in the constructors and used again.
 */
public final class GridRoom {
    /** There is none. */
    public static final int NONE = -1;

    private static final int LAST_DAY = 100000;
    private static final int MOST_DAYS = 1000;
    private static final int SIGNS = 40;
    private static final int PAIRS = SIGNS * (SIGNS - 1) / 2;
    private static final int HANDS = 4;
    private static final int MOST_TRUST = 99;
    private static final int MOST_HELD = 200;
    private static final int MOST_BYTES = 300;
    private static final int FED_BYTES = 20;
    private static final int MOST_TABLETS = 24;
    private static final int MOST_ROWS = 8;
    private static final int MOST_PLACES = 6;
    private static final int MOST_RULES = 10;
    private static final int MOST_CLAUSES = 12;
    private static final int MOST_SHARES = 60;
    private static final int MOST_NAMES = 6;
    private static final int MOST_LETTERS = 8;
    private static final int SORTS = 2;
    private static final int CONSONANT = 0;
    private static final int VOWEL = 1;
    private static final int CONSONANTS = 27;
    private static final int VOWELS = 5;
    private static final int CELLS = CONSONANTS * VOWELS;
    private static final String VOWEL_LETTERS = "aeiou";
    private static final char UNREAD = '?';

    private final Archive archive;
    private final Tape tape;
    private final Grid grid;
    private final Clash firstClash;
    private final Search search;
    private final Census census;
    private final int[] out = new int[2 * MOST_PLACES];
    private int outSize;
    /** The CELLS of the NAME that was spelled last. */
    private final int[] cells = new int[MOST_LETTERS];

    public GridRoom() {
        archive = new Archive();
        tape = new Tape();
        grid = new Grid(archive);
        firstClash = new Clash(grid);
        search = new Search(archive, grid);
        census = new Census(archive, search);
    }

    // ---- days and the tape

    public int day(int n) {
        if (n < 0 || n > MOST_DAYS || archive.today + n > LAST_DAY) {
            return NONE;
        }
        archive.today += n;
        return archive.today;
    }

    public int feed(int a, int b, int c, int d, int e) {
        if (tape.size + FED_BYTES > MOST_BYTES) {
            return NONE;
        }
        tape.takeBytes(a);
        tape.takeBytes(b);
        tape.takeBytes(c);
        tape.takeBytes(d);
        tape.takeBytes(e);
        return tape.size;
    }

    public int end(int n) {
        if (n < 0 || n > tape.size) {
            return NONE;
        }
        tape.size = n;
        return n;
    }

    // ---- what is told

    public int tablet() {
        int number = archive.tabletCount;
        if (number >= MOST_TABLETS) {
            return NONE;
        }
        boolean good = tape.readTablet(archive.tablets[number]);
        tape.size = 0;
        if (!good) {
            return -1 - tape.faultKind;
        }
        archive.tablets[number].came = archive.today;
        archive.tabletCount++;
        forgetView();
        return number;
    }

    public int rules() {
        int number = archive.rulesCount;
        if (number >= MOST_RULES) {
            return NONE;
        }
        Rules told = archive.rules[number];
        boolean good = tape.readRules(told);
        tape.size = 0;
        if (!good) {
            return -1 - tape.faultKind;
        }
        told.toldOn = archive.today;
        archive.rulesCount++;
        forgetView();
        return told.clauses;
    }

    public int place() {
        return tape.faultPlace;
    }

    public boolean away(int what, int k) {
        Dated one = archive.find(what, k);
        if (one == null || one.gone != NONE) {
            return false;
        }
        one.gone = archive.today;
        forgetView();
        return true;
    }

    public boolean trust(int hand, int v) {
        if (!isHand(hand) || v < 0 || v > MOST_TRUST) {
            return false;
        }
        archive.hands.trusts[hand] = v;
        forgetView();
        return true;
    }

    public boolean holds(int hand, int a, int b, int v) {
        if (!isHand(hand) || !isSign(a) || !isSign(b) || a == b || v < 0 || v > Hands.NOTHING) {
            return false;
        }
        if (archive.hands.size >= MOST_HELD) {
            return false;
        }
        archive.hands.hear(archive.today, hand, a, b, v);
        forgetView();
        return true;
    }

    public int share(int sort, int a, int b, boolean is) {
        int number = archive.shareCount;
        if (!isSort(sort) || !isSign(a) || !isSign(b) || a == b || number >= MOST_SHARES) {
            return NONE;
        }
        archive.shares[number].tell(sort, a, b, is);
        archive.shares[number].came = archive.today;
        archive.shareCount++;
        forgetView();
        return number;
    }

    public int name(int tablet) {
        int number = archive.nameCount;
        if (!archive.hasTablet(tablet) || !tape.isName() || number >= MOST_NAMES) {
            return NONE;
        }
        Name told = archive.names[number];
        System.arraycopy(tape.bytes, 0, told.letters, 0, tape.size);
        told.size = tape.size;
        told.tablet = tablet;
        told.came = archive.today;
        archive.nameCount++;
        tape.size = 0;
        forgetView();
        return number;
    }

    // ---- signs and their links

    public int sign(int s, int known) {
        return isSign(s) && see(known) ? archive.stand[s] : NONE;
    }

    public int told(int tablet, int w, int i) throws NoSuchElementException {
        if (!archive.hasWord(tablet, w)) {
            throw new NoSuchElementException("no such word");
        }
        if (i < 0 || i >= archive.tablets[tablet].lengths[w]) {
            throw new NoSuchElementException("no such place");
        }
        return archive.tablets[tablet].signAt(w, i);
    }

    public int pairs(int c, int a, int b, int known) {
        if (!isSign(a) || !isSign(b) || !seeGrid(known) || c < 0 || c >= archive.current.clauses) {
            return NONE;
        }
        int x = archive.stand[a];
        int y = archive.stand[b];
        if (x == y) {
            return 0;
        }
        return grid.tells[c][pairOf(x, y)];
    }

    public int links(int sort, int known) {
        if (!isSort(sort) || !seeGrid(known)) {
            return NONE;
        }
        return grid.linkCount(sort);
    }

    public int classOf(int sort, int s, int known) {
        if (!isSort(sort) || !isSign(s) || !seeGrid(known)) {
            return NONE;
        }
        return leastOf(grid.classes[sort][archive.stand[s]]);
    }

    public int clash(int known, int what) {
        if (!seeGrid(known)) {
            return NONE;
        }
        firstClash.make();
        if (firstClash.kind == NONE) {
            return NONE;
        }
        switch (what) {
            case 0:
                return firstClash.low;
            case 1:
                return firstClash.high;
            case 2:
                return firstClash.kind;
            case 3:
                return firstClash.length;
            default:
                return NONE;
        }
    }

    public int reason(int known, int i, int what) {
        if (!seeGrid(known)) {
            return NONE;
        }
        firstClash.make();
        if (i < 0 || i >= firstClash.steps) {
            return NONE;
        }
        switch (what) {
            case 0:
                return firstClash.sorts[i];
            case 1:
                return firstClash.from[i];
            case 2:
                return firstClash.to[i];
            default:
                return NONE;
        }
    }

    // ---- names and ways

    public int spelled(int name, int known) {
        if (!archive.hasName(name) || !see(known)) {
            return NONE;
        }
        return spellName(name);
    }

    public int cell(int name, int i, int known) {
        if (!archive.hasName(name) || !see(known)) {
            return NONE;
        }
        int size = spellName(name);
        return i >= 0 && i < size ? cells[i] : NONE;
    }

    private int spellName(int name) {
        Name spelt = archive.names[name];
        return archive.current.spell(spelt.letters, spelt.size, cells);
    }

    public int ways(int known) {
        if (!seeGrid(known)) {
            return NONE;
        }
        census.countWays();
        return census.total;
    }

    public int way(int known, int k, int name) {
        if (k < 0 || !archive.hasName(name) || !seeGrid(known) || !search.findWay(k)) {
            return NONE;
        }
        return search.rowOfName(name);
    }

    public int given(int known, int k, int s) {
        if (k < 0 || !isSign(s) || !seeGrid(known) || !search.findWay(k)) {
            return NONE;
        }
        return search.cellOf[archive.stand[s]];
    }

    public int forced(int known, int s) {
        if (!isSign(s) || !seeGrid(known)) {
            return NONE;
        }
        census.countWays();
        return census.forcedCell(archive.stand[s]);
    }

    public int reads(int known, int tablet, int w) {
        if (!archive.hasWord(tablet, w) || !seeGrid(known)) {
            return NONE;
        }
        census.countWays();
        Tablet word = archive.tablets[tablet];
        outSize = 0;
        for (int i = 0; i < word.lengths[w]; i++) {
            int sign = word.signAt(w, i);
            writeCell(sign == NONE ? NONE : census.forcedCell(archive.stand[sign]));
        }
        return outSize;
    }

    public int letter(int i) {
        return i >= 0 && i < outSize ? out[i] : NONE;
    }

    public int settles(int known, int what) {
        if (what < 0 || what > 1 || !seeGrid(known)) {
            return NONE;
        }
        census.countWays();
        if (census.total == 0) {
            return NONE;
        }
        int sign = census.settlingSign();
        return what == 0 ? sign : census.mostAgreeing(sign);
    }

    public int would(int known, int tablet) {
        if (!archive.hasTablet(tablet) || !tape.isName() || !seeGrid(known)
                || !archive.tablets[tablet].countsOn(known)) {
            return NONE;
        }
        search.seatNames(0);
        search.seatNew(tape.bytes, tape.size);
        tape.size = 0;
        return search.waysWithNewAt(tablet, Search.ALL);
    }

    public int fits(int known) {
        if (!tape.isName() || !seeGrid(known)) {
            return NONE;
        }
        search.seatNames(0);
        search.seatNew(tape.bytes, tape.size);
        tape.size = 0;
        return search.rowsForNew();
    }

    public int doubt(int known, int what) {
        if (what < 0 || what > 1 || !seeGrid(known)) {
            return NONE;
        }
        census.findDoubt();
        return what == 0 ? Integer.bitCount(census.doubted) : census.doubted;
    }

    public int could(int known, int s, int i, int what) {
        if (!isSign(s) || i < 0 || what < 0 || what > 1 || !seeGrid(known)) {
            return NONE;
        }
        census.countWays();
        int sign = archive.stand[s];
        int cell = census.possibleCell(sign, i);
        return what == 0 || cell == NONE ? cell : census.waysWith(sign, cell);
    }

    public int inGrid(int known, int cell) {
        if (cell < 0 || cell >= CELLS || !seeGrid(known)) {
            return NONE;
        }
        census.countWays();
        return census.holderOf(cell);
    }

    public int where(int known) {
        if (!tape.isName() || !seeGrid(known)) {
            return NONE;
        }
        search.seatNames(0);
        search.seatNew(tape.bytes, tape.size);
        tape.size = 0;
        return search.tabletTellingMost();
    }

    // ---- counts

    public int often(int s, int known, int what) {
        if (!isSign(s) || what < 0 || what > Census.IN_ALL || !see(known)) {
            return NONE;
        }
        census.countPlaces();
        return census.places[archive.stand[s] * Census.PLACE_KINDS + what];
    }

    public int rank(int known, int i) {
        if (i < 0 || !see(known)) {
            return NONE;
        }
        census.countPlaces();
        return census.signRanked(i);
    }

    public int count(int what) {
        switch (what) {
            case 0:
                return archive.today;
            case 1:
                return archive.tabletCount;
            case 2:
                return archive.rulesCount;
            case 3:
                return archive.shareCount;
            case 4:
                return archive.nameCount;
            case 5:
                return archive.hands.size;
            case 6:
                return tape.size;
            case 7:
                return outSize;
            case 8:
                return countingToday(archive.tablets, archive.tabletCount);
            case 9:
                return countingToday(archive.names, archive.nameCount);
            default:
                return NONE;
        }
    }

    private int countingToday(Dated[] all, int size) {
        int counting = 0;
        for (int i = 0; i < size && i < all.length; i++) {
            if (all[i].countsOn(archive.today)) {
                counting++;
            }
        }
        return counting;
    }

    // ---- what is kept of the day that was looked at

    /** Makes the view of a DAY, unless it is the one at hand; false: no such DAY. */
    private boolean see(int known) {
        if (known < 0 || known > archive.today) {
            return false;
        }
        if (archive.viewed != known) {
            archive.look(known);
            grid.made = false;
            firstClash.made = false;
            census.forgetCounts();
        }
        return true;
    }

    /** Makes the view of a DAY, and its LINKS with it. */
    private boolean seeGrid(int known) {
        if (!see(known)) {
            return false;
        }
        grid.make();
        return true;
    }

    private void forgetView() {
        archive.viewed = NONE;
    }

    private void writeCell(int cell) {
        if (cell == NONE) {
            writeByte(UNREAD);
            return;
        }
        int consonant = cell / VOWELS;
        if (consonant > 0) {
            writeByte('a' + consonant - 1);
        }
        writeByte(VOWEL_LETTERS.charAt(cell % VOWELS));
    }

    private void writeByte(int letter) {
        if (outSize < out.length) {
            out[outSize] = letter;
            outSize++;
        }
    }

    // ---- small things that all classes use

    private static boolean isSign(int s) {
        return s >= 0 && s < SIGNS;
    }

    private static boolean isSort(int sort) {
        return sort == CONSONANT || sort == VOWEL;
    }

    private static boolean isHand(int hand) {
        return hand >= 0 && hand < HANDS;
    }

    /** A number of its own for each pair of unlike SIGNS, 0 to PAIRS - 1, in either order. */
    private static int pairOf(int a, int b) {
        int low = Math.min(a, b);
        int high = Math.max(a, b);
        return high * (high - 1) / 2 + low;
    }

    /** The number of a vowel's letter; NONE for all other letters. */
    private static int vowelOf(int letter) {
        switch (letter) {
            case 'a':
                return 0;
            case 'e':
                return 1;
            case 'i':
                return 2;
            case 'o':
                return 3;
            case 'u':
                return 4;
            default:
                return NONE;
        }
    }

    private static boolean isVowel(int letter) {
        return vowelOf(letter) != NONE;
    }

    private static boolean has(long set, int sign) {
        return (set >>> sign & 1L) != 0;
    }

    private static int leastOf(long set) {
        return set == 0 ? NONE : Long.bitCount((set & -set) - 1);
    }

    private static void join(long[] next, int a, int b) {
        next[a] |= 1L << b;
        next[b] |= 1L << a;
    }

    /** All SIGNS that are next to one of a set. */
    private static long around(long[] next, long set) {
        long all = 0;
        for (int s = 0; s < SIGNS; s++) {
            if (has(set, s)) {
                all |= next[s];
            }
        }
        return all;
    }

    /** All SIGNS that can be come to from one, itself too. */
    private static long reachOf(long[] next, int from) {
        long seen = 1L << from;
        long edge = next[from] == 0 ? 0 : seen;
        for (int round = 0; round < SIGNS && edge != 0; round++) {
            edge = around(next, edge) & ~seen;
            seen |= edge;
        }
        return seen;
    }

    /** One that comes on a DAY and is put away on that one or a later one. */
    private abstract static class Dated {
        int came;
        int gone = NONE;

        final boolean countsOn(int known) {
            return came <= known && (gone == NONE || gone > known);
        }
    }

    private static final class Tablet extends Dated {
        int rows;
        final int[] lengths = new int[MOST_ROWS];
        final int[] signs = new int[MOST_ROWS * MOST_PLACES];

        int signAt(int row, int i) {
            return signs[row * MOST_PLACES + i];
        }
    }

    private static final class Share extends Dated {
        int sort;
        int a;
        int b;
        boolean is;

        void tell(int toldSort, int toldA, int toldB, boolean toldIs) {
            sort = toldSort;
            a = toldA;
            b = toldB;
            is = toldIs;
        }
    }

    private static final class Name extends Dated {
        final int[] letters = new int[MOST_LETTERS];
        int size;
        int tablet;
    }

    /** The CLAUSES of one text. */
    private static final class Rules {
        static final int WRITE = 2;
        static final int DROP = 3;
        static final int LAST = 0;

        int toldOn;
        int clauses;
        /** The SORT, or WRITE, or DROP. */
        final int[] kinds = new int[MOST_CLAUSES];
        /** From 1 on; LAST. */
        final int[] wheres = new int[MOST_CLAUSES];
        final int[] leastLengths = new int[MOST_CLAUSES];
        final int[] leastCounts = new int[MOST_CLAUSES];
        final int[] letters = new int[MOST_CLAUSES];
        final int[] writtenAs = new int[MOST_CLAUSES];
        /** The NAME that is being spelled: its letters as they are written, and which vowels they are. */
        private final int[] written = new int[MOST_LETTERS];
        private final int[] vowels = new int[MOST_LETTERS];

        /** Whether ROWS of a length that are unlike in one place alone are such as a CLAUSE means. */
        boolean means(int c, int length, int place) {
            if (!isSort(kinds[c]) || length < leastLengths[c]) {
                return false;
            }
            return place == (wheres[c] == LAST ? length : wheres[c]) - 1;
        }

        /** Puts a NAME's CELLS into a row; how many. */
        int spell(int[] name, int size, int[] cells) {
            for (int i = 0; i < size; i++) {
                written[i] = writtenFor(name[i]);
                vowels[i] = vowelOf(written[i]);
            }
            int made = 0;
            for (int i = 0; i < size; i++) {
                int cell = cellMadeBy(i, size);
                if (cell != NONE) {
                    cells[made] = cell;
                    made++;
                }
            }
            return made;
        }

        private int cellMadeBy(int i, int size) {
            if (vowels[i] != NONE) {
                boolean alone = i == 0 || vowels[i - 1] != NONE;
                return alone ? vowels[i] : NONE;
            }
            boolean open = i + 1 < size && vowels[i + 1] != NONE;
            if (!open && drops(written[i])) {
                return NONE;
            }
            int vowel = vowelFor(i, size);
            return vowel == NONE ? NONE : (written[i] - 'a' + 1) * VOWELS + vowel;
        }

        /** The next vowel behind a consonant, without such the latest one ahead of it. */
        private int vowelFor(int i, int size) {
            for (int next = i + 1; next < size; next++) {
                if (vowels[next] != NONE) {
                    return vowels[next];
                }
            }
            for (int back = i - 1; back >= 0; back--) {
                if (vowels[back] != NONE) {
                    return vowels[back];
                }
            }
            return NONE;
        }

        private int writtenFor(int letter) {
            for (int c = clauses - 1; c >= 0; c--) {
                if (kinds[c] == WRITE && letters[c] == letter) {
                    return writtenAs[c];
                }
            }
            return letter;
        }

        private boolean drops(int letter) {
            for (int c = 0; c < clauses; c++) {
                if (kinds[c] == DROP && letters[c] == letter) {
                    return true;
                }
            }
            return false;
        }
    }

    /** The TAPE, and how it is read as a text. */
    private static final class Tape {
        private static final int END = 0;
        private static final int WORD = 1;
        private static final int NUMBER = 2;
        private static final int OTHER = 3;
        private static final int WRONG = 1;
        private static final int CANNOT_BE = 2;
        private static final int TOO_MANY = 3;
        private static final int MOST_FIGURES = 2;
        private static final int USUAL_LENGTH = 3;
        private static final int LEAST_LENGTH = 2;
        private static final int MOST_TIMES = 99;

        final int[] bytes = new int[MOST_BYTES];
        int size;
        int faultKind;
        int faultPlace = NONE;
        private int token;
        private int start;
        private int behind;
        /** What a NUMBER is, or which byte an OTHER is. */
        private int value;

        /** Four bytes more, the highest first. */
        void takeBytes(int number) {
            for (int shift = 24; shift >= 0 && size < MOST_BYTES; shift -= 8) {
                bytes[size] = number >>> shift & 255;
                size++;
            }
        }

        boolean isName() {
            if (size < 1 || size > MOST_LETTERS) {
                return false;
            }
            for (int i = 0; i < size; i++) {
                if (!isLetterAt(i)) {
                    return false;
                }
            }
            return true;
        }

        boolean readTablet(Tablet into) {
            begin();
            for (int row = 0; row <= MOST_ROWS; row++) {
                if (row > 0 && token == END) {
                    into.rows = row;
                    return true;
                }
                if (!beginsPlace()) {
                    return fault(WRONG);
                }
                if (row == MOST_ROWS) {
                    return fault(TOO_MANY);
                }
                if (!readRow(into, row)) {
                    return false;
                }
            }
            return false;
        }

        private boolean readRow(Tablet into, int row) {
            for (int i = 0; i <= MOST_PLACES; i++) {
                if (i > 0 && isByte('.')) {
                    into.lengths[row] = i;
                    advance();
                    return true;
                }
                if (!beginsPlace()) {
                    return fault(WRONG);
                }
                if (i == MOST_PLACES) {
                    return fault(TOO_MANY);
                }
                if (token == NUMBER && !isSign(value)) {
                    return fault(CANNOT_BE);
                }
                into.signs[row * MOST_PLACES + i] = token == NUMBER ? value : NONE;
                advance();
            }
            return false;
        }

        boolean readRules(Rules into) {
            begin();
            for (int c = 0; c <= MOST_CLAUSES; c++) {
                if (token == END) {
                    into.clauses = c;
                    return true;
                }
                int kind = clauseKind();
                if (kind == NONE) {
                    return fault(WRONG);
                }
                if (c == MOST_CLAUSES) {
                    return fault(TOO_MANY);
                }
                into.kinds[c] = kind;
                advance();
                if (!readClause(into, c)) {
                    return false;
                }
                if (!isByte(';')) {
                    return fault(WRONG);
                }
                advance();
            }
            return false;
        }

        private int clauseKind() {
            if (isWord("consonant")) {
                return CONSONANT;
            }
            if (isWord("vowel")) {
                return VOWEL;
            }
            if (isWord("write")) {
                return Rules.WRITE;
            }
            return isWord("drop") ? Rules.DROP : NONE;
        }

        private boolean readClause(Rules into, int c) {
            switch (into.kinds[c]) {
                case Rules.WRITE:
                    return readWrite(into, c);
                case Rules.DROP:
                    return readDrop(into, c);
                default:
                    return readSharing(into, c);
            }
        }

        private boolean readSharing(Rules into, int c) {
            into.leastLengths[c] = USUAL_LENGTH;
            into.leastCounts[c] = 1;
            return readWhere(into, c)
                    && readOption("length", into.leastLengths, c, LEAST_LENGTH, MOST_PLACES)
                    && readOption("count", into.leastCounts, c, 1, MOST_TIMES);
        }

        private boolean readWhere(Rules into, int c) {
            if (isWord("first")) {
                into.wheres[c] = 1;
            } else if (isWord("last")) {
                into.wheres[c] = Rules.LAST;
            } else if (isNumber(1, MOST_PLACES)) {
                into.wheres[c] = value;
            } else {
                return false;
            }
            advance();
            return true;
        }

        /** A word and the number behind it, or neither: then what is there stays. */
        private boolean readOption(String word, int[] into, int c, int least, int most) {
            if (!isWord(word)) {
                return true;
            }
            advance();
            if (!isNumber(least, most)) {
                return false;
            }
            into[c] = value;
            advance();
            return true;
        }

        private boolean readWrite(Rules into, int c) {
            if (!isLetter()) {
                return fault(WRONG);
            }
            into.letters[c] = bytes[start];
            advance();
            if (!isWord("as")) {
                return fault(WRONG);
            }
            advance();
            if (!isLetter()) {
                return fault(WRONG);
            }
            into.writtenAs[c] = bytes[start];
            if (isVowel(into.letters[c]) != isVowel(into.writtenAs[c])) {
                return fault(CANNOT_BE);
            }
            advance();
            return true;
        }

        private boolean readDrop(Rules into, int c) {
            if (!isLetter()) {
                return fault(WRONG);
            }
            into.letters[c] = bytes[start];
            if (isVowel(into.letters[c])) {
                return fault(CANNOT_BE);
            }
            advance();
            return true;
        }

        /** Whether a number of a span stands here; if not, that is a FAULT. */
        private boolean isNumber(int least, int most) {
            if (token != NUMBER) {
                return fault(WRONG);
            }
            return value >= least && value <= most || fault(CANNOT_BE);
        }

        private boolean beginsPlace() {
            return token == NUMBER || isByte(UNREAD);
        }

        private boolean isByte(int wanted) {
            return token == OTHER && value == wanted;
        }

        private boolean isLetter() {
            return token == WORD && behind - start == 1;
        }

        private boolean isWord(String word) {
            if (token != WORD || behind - start != word.length()) {
                return false;
            }
            for (int i = 0; i < word.length(); i++) {
                if (bytes[start + i] != word.charAt(i)) {
                    return false;
                }
            }
            return true;
        }

        /** Says false, so that a reader can end with it. */
        private boolean fault(int kind) {
            faultKind = kind;
            faultPlace = start;
            return false;
        }

        private void begin() {
            faultKind = 0;
            faultPlace = NONE;
            behind = 0;
            advance();
        }

        /** Goes on to the next TOKEN. */
        private void advance() {
            start = behind;
            while (start < size && (bytes[start] == ' ' || bytes[start] == '\n')) {
                start++;
            }
            behind = start;
            if (start >= size) {
                token = END;
            } else if (isLetterAt(start)) {
                takeWord();
            } else if (isFigureAt(start)) {
                takeNumber();
            } else {
                token = OTHER;
                value = bytes[start];
                behind++;
            }
        }

        private void takeWord() {
            token = WORD;
            while (behind < size && isLetterAt(behind)) {
                behind++;
            }
        }

        private void takeNumber() {
            value = 0;
            while (behind < size && isFigureAt(behind)) {
                value = value * 10 + bytes[behind] - '0';
                behind++;
            }
            token = NUMBER;
            if (behind - start > MOST_FIGURES) {
                // No text goes on with it: as a byte that no text has.
                token = OTHER;
                value = NONE;
            }
        }

        private boolean isLetterAt(int i) {
            return bytes[i] >= 'a' && bytes[i] <= 'z';
        }

        private boolean isFigureAt(int i) {
            return bytes[i] >= '0' && bytes[i] <= '9';
        }
    }

    /** What HANDS hold two SIGNS for, as it was told. */
    private static final class Hands {
        static final int UNLIKE = 0;
        static final int SAME = 1;
        static final int NOTHING = 2;

        final int[] trusts = {10, 10, 10, 10};
        int size;
        private final int[] days = new int[MOST_HELD];
        private final int[] who = new int[MOST_HELD];
        private final int[] lows = new int[MOST_HELD];
        private final int[] highs = new int[MOST_HELD];
        private final int[] held = new int[MOST_HELD];
        /** For each pair the HANDS whose latest word on it has been weighed, as bits. */
        private final int[] weighed = new int[PAIRS];
        private final int[] weights = new int[PAIRS];
        private final long[] ones = new long[SIGNS];

        void hear(int day, int hand, int a, int b, int v) {
            days[size] = day;
            who[size] = hand;
            lows[size] = Math.min(a, b);
            highs[size] = Math.max(a, b);
            held[size] = v;
            size++;
        }

        /** As which SIGN each STANDS. */
        void stand(int known, int[] into) {
            Arrays.fill(ones, 0L);
            for (int i = 0; i < size; i++) {
                weighed[pairOf(lows[i], highs[i])] = 0;
                weights[pairOf(lows[i], highs[i])] = 0;
            }
            // Backwards, as what a HAND told last of a pair is what counts.
            for (int i = size - 1; i >= 0; i--) {
                if (days[i] <= known) {
                    weigh(pairOf(lows[i], highs[i]), who[i], held[i]);
                }
            }
            for (int i = 0; i < size; i++) {
                if (weights[pairOf(lows[i], highs[i])] > 0) {
                    join(ones, lows[i], highs[i]);
                }
            }
            for (int s = 0; s < SIGNS; s++) {
                into[s] = leastOf(reachOf(ones, s));
            }
        }

        private void weigh(int pair, int hand, int v) {
            int bit = 1 << hand;
            if ((weighed[pair] & bit) != 0) {
                return;
            }
            weighed[pair] |= bit;
            if (v == SAME) {
                weights[pair] += trusts[hand];
            } else if (v == UNLIKE) {
                weights[pair] -= trusts[hand];
            }
        }
    }

    /** All that was told, and what of it is the same for all answers about one DAY. */
    private static final class Archive {
        int today;
        final Tablet[] tablets = new Tablet[MOST_TABLETS];
        int tabletCount;
        final Rules[] rules = new Rules[MOST_RULES];
        int rulesCount;
        final Share[] shares = new Share[MOST_SHARES];
        int shareCount;
        final Name[] names = new Name[MOST_NAMES];
        int nameCount;
        final Hands hands = new Hands();
        /** The DAY that the rest is of; NONE: something was told since. */
        int viewed = NONE;
        final int[] stand = new int[SIGNS];
        Rules current;
        private final Rules empty = new Rules();

        Archive() {
            for (int i = 0; i < MOST_TABLETS; i++) {
                tablets[i] = new Tablet();
            }
            for (int i = 0; i < MOST_RULES; i++) {
                rules[i] = new Rules();
            }
            for (int i = 0; i < MOST_SHARES; i++) {
                shares[i] = new Share();
            }
            for (int i = 0; i < MOST_NAMES; i++) {
                names[i] = new Name();
            }
            current = empty;
        }

        boolean hasTablet(int tablet) {
            return tablet >= 0 && tablet < tabletCount;
        }

        boolean hasWord(int tablet, int w) {
            return hasTablet(tablet) && w >= 0 && w < tablets[tablet].rows;
        }

        boolean hasName(int name) {
            return name >= 0 && name < nameCount;
        }

        /** A TABLET (0), a SHARE (1), a NAME (2); null: no such one. */
        Dated find(int what, int k) {
            if (k < 0) {
                return null;
            }
            switch (what) {
                case 0:
                    return k < tabletCount ? tablets[k] : null;
                case 1:
                    return k < shareCount ? shares[k] : null;
                case 2:
                    return k < nameCount ? names[k] : null;
                default:
                    return null;
            }
        }

        void look(int known) {
            viewed = known;
            current = empty;
            for (int i = 0; i < rulesCount; i++) {
                if (rules[i].toldOn <= known) {
                    current = rules[i];
                }
            }
            hands.stand(known, stand);
        }

        boolean tabletCounts(int tablet) {
            return tablets[tablet].countsOn(viewed);
        }

        /** Whether a NAME takes part in WAYS. */
        boolean nameCounts(int name) {
            return names[name].countsOn(viewed) && tabletCounts(names[name].tablet);
        }
    }

    /** Which SIGNS SHARE, and which are PARTED. */
    private static final class Grid {
        private static final int SIGN_BITS = 6;

        boolean made;
        /** By CLAUSE, then by pair of SIGNS: how many pairs of ROWS tell that they SHARE. */
        final int[][] tells = new int[MOST_CLAUSES][PAIRS];
        final long[][] linked = new long[SORTS][SIGNS];
        final long[][] parted = new long[SORTS][SIGNS];
        final long[][] classes = new long[SORTS][SIGNS];
        private final Archive archive;
        private final long[] keys = new long[MOST_TABLETS * MOST_ROWS];
        private final int[] lengths = new int[MOST_TABLETS * MOST_ROWS];
        private int rows;

        Grid(Archive archive) {
            this.archive = archive;
        }

        void make() {
            if (made) {
                return;
            }
            made = true;
            for (int sort = 0; sort < SORTS; sort++) {
                Arrays.fill(linked[sort], 0L);
                Arrays.fill(parted[sort], 0L);
            }
            gatherRows();
            linkByClauses();
            linkByShares();
            for (int sort = 0; sort < SORTS; sort++) {
                for (int s = 0; s < SIGNS; s++) {
                    classes[sort][s] = reachOf(linked[sort], s);
                }
            }
        }

        int linkCount(int sort) {
            int ends = 0;
            for (int s = 0; s < SIGNS; s++) {
                ends += Long.bitCount(linked[sort][s]);
            }
            return ends / 2;
        }

        private void gatherRows() {
            rows = 0;
            for (int t = 0; t < archive.tabletCount; t++) {
                if (archive.tabletCounts(t)) {
                    gatherRowsOf(archive.tablets[t]);
                }
            }
        }

        private void gatherRowsOf(Tablet tablet) {
            for (int row = 0; row < tablet.rows; row++) {
                long key = keyOf(tablet, row);
                if (key != NONE && !isThere(key)) {
                    keys[rows] = key;
                    lengths[rows] = tablet.lengths[row];
                    rows++;
                }
            }
        }

        private boolean isThere(long key) {
            for (int i = 0; i < rows; i++) {
                if (keys[i] == key) {
                    return true;
                }
            }
            return false;
        }

        /** A ROW as one number, six bits a place, never 0 in a place that it has; NONE: not all can be read. */
        private long keyOf(Tablet tablet, int row) {
            long key = 0;
            for (int i = 0; i < tablet.lengths[row]; i++) {
                int sign = tablet.signAt(row, i);
                if (sign == NONE) {
                    return NONE;
                }
                key |= (archive.stand[sign] + 1L) << SIGN_BITS * i;
            }
            return key;
        }

        private void linkByClauses() {
            for (int c = 0; c < archive.current.clauses; c++) {
                Arrays.fill(tells[c], 0);
            }
            for (int i = 0; i < rows; i++) {
                for (int j = 0; j < i; j++) {
                    if (lengths[i] == lengths[j]) {
                        compare(keys[i], keys[j], lengths[i]);
                    }
                }
            }
        }

        private void compare(long key, long other, int length) {
            int lowest = leastOf(key ^ other);
            if (lowest == NONE) {
                return;
            }
            int place = lowest / SIGN_BITS;
            int shift = place * SIGN_BITS;
            if ((key ^ other) >>> shift >= 1L << SIGN_BITS) {
                return;
            }
            int a = signIn(key, shift);
            int b = signIn(other, shift);
            for (int c = 0; c < archive.current.clauses; c++) {
                if (archive.current.means(c, length, place)) {
                    tells[c][pairOf(a, b)]++;
                    if (tells[c][pairOf(a, b)] >= archive.current.leastCounts[c]) {
                        join(linked[archive.current.kinds[c]], a, b);
                    }
                }
            }
        }

        private static int signIn(long key, int shift) {
            return (int) (key >>> shift & (1L << SIGN_BITS) - 1) - 1;
        }

        private void linkByShares() {
            for (int i = 0; i < archive.shareCount; i++) {
                Share share = archive.shares[i];
                int a = archive.stand[share.a];
                int b = archive.stand[share.b];
                if (a != b && share.countsOn(archive.viewed)) {
                    join(share.is ? linked[share.sort] : parted[share.sort], a, b);
                }
            }
        }
    }

    /** THE CLASH and its REASON. */
    private static final class Clash {
        private static final int MOST_STEPS = SORTS * SIGNS;

        boolean made;
        int low;
        int high;
        int kind;
        int length;
        int steps;
        final int[] sorts = new int[MOST_STEPS];
        final int[] from = new int[MOST_STEPS];
        final int[] to = new int[MOST_STEPS];
        private final Grid grid;
        private int firstSort;
        private int lastSort;
        /** How many LINKS of a SORT away each SIGN is from the one that was measured from. */
        private final int[][] far = new int[SORTS][SIGNS];

        Clash(Grid grid) {
            this.grid = grid;
        }

        void make() {
            if (made) {
                return;
            }
            made = true;
            kind = NONE;
            steps = 0;
            for (int a = 0; a < SIGNS; a++) {
                weighAll(a, clashingAbove(a));
            }
            if (kind != NONE) {
                for (int sort = firstSort; sort <= lastSort; sort++) {
                    trace(sort);
                }
            }
        }

        private long clashingAbove(int a) {
            long byConsonant = grid.classes[CONSONANT][a];
            long byVowel = grid.classes[VOWEL][a];
            long clashing = byConsonant & byVowel
                    | byConsonant & grid.parted[CONSONANT][a]
                    | byVowel & grid.parted[VOWEL][a];
            return clashing & (-1L << (a + 1));
        }

        private void weighAll(int a, long clashing) {
            if (clashing == 0) {
                return;
            }
            measure(CONSONANT, a);
            measure(VOWEL, a);
            for (int b = a + 1; b < SIGNS; b++) {
                if (has(clashing, b)) {
                    weigh(a, b);
                }
            }
        }

        /** Offers come in the order in which like ones are taken: an equal one is never taken later. */
        private void weigh(int a, int b) {
            int byConsonant = far[CONSONANT][b];
            int byVowel = far[VOWEL][b];
            if (byConsonant != NONE && byVowel != NONE && isShorter(byConsonant + byVowel)) {
                take(a, b, 1, CONSONANT, VOWEL, byConsonant + byVowel);
            }
            if (byConsonant != NONE && has(grid.parted[CONSONANT][a], b) && isShorter(byConsonant)) {
                take(a, b, 2, CONSONANT, CONSONANT, byConsonant);
            }
            if (byVowel != NONE && has(grid.parted[VOWEL][a], b) && isShorter(byVowel)) {
                take(a, b, 2, VOWEL, VOWEL, byVowel);
            }
        }

        private boolean isShorter(int links) {
            return kind == NONE || links < length;
        }

        private void take(int a, int b, int newKind, int newFirst, int newLast, int links) {
            low = a;
            high = b;
            kind = newKind;
            firstSort = newFirst;
            lastSort = newLast;
            length = links;
        }

        private void measure(int sort, int start) {
            int[] distances = far[sort];
            Arrays.fill(distances, NONE);
            distances[start] = 0;
            long seen = 1L << start;
            long edge = seen;
            for (int distance = 1; distance < SIGNS && edge != 0; distance++) {
                edge = around(grid.linked[sort], edge) & ~seen;
                seen |= edge;
                for (int s = 0; s < SIGNS && edge != 0; s++) {
                    if (has(edge, s)) {
                        distances[s] = distance;
                    }
                }
            }
        }

        /** From the lower SIGN always to the least one that is nearer to the higher one. */
        private void trace(int sort) {
            measure(sort, high);
            int at = low;
            for (int left = far[sort][low] - 1; left >= 0 && steps < MOST_STEPS; left--) {
                int next = nearer(sort, at, left);
                if (next == NONE) {
                    return;
                }
                sorts[steps] = sort;
                from[steps] = at;
                to[steps] = next;
                steps++;
                at = next;
            }
        }

        private int nearer(int sort, int at, int left) {
            for (int s = 0; s < SIGNS; s++) {
                if (has(grid.linked[sort][at], s) && far[sort][s] == left) {
                    return s;
                }
            }
            return NONE;
        }
    }

    /** Lays NAMES on ROWS, so that GIVEN CELLS agree; each NAME has a seat, one more is for a new one. */
    private static final class Search {
        static final int ALL = 2147483647;
        private static final int SEATS = MOST_NAMES + 1;

        /** By SIGN, then by CELL: in how many WAYS it has that, as they were tallied last. */
        final int[] tally = new int[SIGNS * CELLS];
        /** The SIGNS that have a CELL in some of these. */
        long tallied;
        final int[] cellOf = new int[SIGNS];
        private final Archive archive;
        private final Grid grid;
        private int seats;
        private final int[] nameAt = new int[SEATS];
        private final int[] tabletAt = new int[SEATS];
        private final int[] sizeAt = new int[SEATS];
        private final int[][] cellsAt = new int[SEATS][MOST_LETTERS];
        private final int[] rowAt = new int[SEATS];
        /** The SIGNS to which a seat was the first to give a CELL. */
        private final int[][] newAt = new int[SEATS][MOST_PLACES];
        private final int[] newCountAt = new int[SEATS];
        private long given;
        private final long[] byConsonant = new long[CONSONANTS];
        private final long[] byVowel = new long[VOWELS];
        private int found;
        private int most;
        private boolean tallying;

        Search(Archive archive, Grid grid) {
            this.archive = archive;
            this.grid = grid;
        }

        // -- seats

        /** A seat for each NAME that takes part, but for those left out (as bits). */
        void seatNames(int leftOut) {
            seats = 0;
            for (int i = 0; i < archive.nameCount; i++) {
                if ((leftOut >>> i & 1) == 0 && archive.nameCounts(i)) {
                    Name name = archive.names[i];
                    nameAt[seats] = i;
                    tabletAt[seats] = name.tablet;
                    sizeAt[seats] = archive.current.spell(name.letters, name.size, cellsAt[seats]);
                    seats++;
                }
            }
        }

        /** The new NAME's seat is behind the others and takes no part by itself. */
        void seatNew(int[] letters, int size) {
            nameAt[seats] = NONE;
            sizeAt[seats] = archive.current.spell(letters, size, cellsAt[seats]);
        }

        int rowOfName(int name) {
            for (int seat = 0; seat < seats; seat++) {
                if (nameAt[seat] == name) {
                    return rowAt[seat];
                }
            }
            return NONE;
        }

        // -- what is asked

        /** Counts all WAYS, and in how many each SIGN has which CELL. */
        int tallyWays() {
            seatNames(0);
            clearCells();
            Arrays.fill(tally, 0);
            tallied = 0;
            tallying = true;
            layAll(ALL);
            tallying = false;
            return found;
        }

        /** Whether there is a WAY k; it stays laid then. */
        boolean findWay(int k) {
            seatNames(0);
            clearCells();
            return k < ALL && layAll(k + 1);
        }

        boolean hasWayWithout(int leftOut) {
            seatNames(leftOut);
            clearCells();
            return layAll(1);
        }

        /** How many WAYS there are with the new NAME at a TABLET; not counted above a limit. */
        int waysWithNewAt(int tablet, int limit) {
            clearCells();
            tabletAt[seats] = tablet;
            seats++;
            layAll(limit);
            seats--;
            return found;
        }

        int tabletTellingMost() {
            int best = NONE;
            int fewest = ALL;
            for (int t = 0; t < archive.tabletCount; t++) {
                if (archive.tabletCounts(t)) {
                    int left = waysWithNewAt(t, fewest);
                    if (left >= 1 && left < fewest) {
                        best = t;
                        fewest = left;
                    }
                }
            }
            return best;
        }

        /** On how many ROWS the new NAME can lie with some WAY beside it. */
        int rowsForNew() {
            int fitting = 0;
            for (int t = 0; t < archive.tabletCount; t++) {
                if (archive.tabletCounts(t)) {
                    fitting += rowsForNewAt(t);
                }
            }
            return fitting;
        }

        private int rowsForNewAt(int tablet) {
            int fitting = 0;
            tabletAt[seats] = tablet;
            for (int row = 0; row < archive.tablets[tablet].rows; row++) {
                clearCells();
                if (isOpen(seats, row) && lay(seats, row) && layAll(1)) {
                    fitting++;
                }
            }
            return fitting;
        }

        // -- laying

        private void clearCells() {
            Arrays.fill(rowAt, NONE);
            Arrays.fill(cellOf, NONE);
            Arrays.fill(byConsonant, 0L);
            Arrays.fill(byVowel, 0L);
            given = 0;
            found = 0;
        }

        /** Lays all seated NAMES in all WAYS, until so many were found: then true, and the last stays laid. */
        private boolean layAll(int limit) {
            most = limit;
            return everySeatHasRows() && descend(0);
        }

        /** Spares a search through all others when one NAME has no ROW of its length. */
        private boolean everySeatHasRows() {
            for (int seat = 0; seat < seats; seat++) {
                Tablet tablet = archive.tablets[tabletAt[seat]];
                boolean some = false;
                for (int row = 0; row < tablet.rows && !some; row++) {
                    some = tablet.lengths[row] == sizeAt[seat];
                }
                if (!some) {
                    return false;
                }
            }
            return true;
        }

        private boolean descend(int seat) {
            if (seat >= seats) {
                found++;
                return found >= most;
            }
            int rows = archive.tablets[tabletAt[seat]].rows;
            for (int row = 0; row < rows; row++) {
                if (!isOpen(seat, row)) {
                    continue;
                }
                int before = found;
                if (lay(seat, row) && descend(seat + 1)) {
                    return true;
                }
                if (tallying && found > before) {
                    note(seat, found - before);
                }
                lift(seat);
            }
            return false;
        }

        /** Whether a ROW has as many places as a seat's NAME has CELLS, and no other NAME lies on it. */
        private boolean isOpen(int seat, int row) {
            int tablet = tabletAt[seat];
            if (archive.tablets[tablet].lengths[row] != sizeAt[seat]) {
                return false;
            }
            for (int other = 0; other < SEATS; other++) {
                if (rowAt[other] == row && tabletAt[other] == tablet) {
                    return false;
                }
            }
            return true;
        }

        /** Gives the SIGNS of a ROW their CELLS as far as they agree; false: not all do. */
        private boolean lay(int seat, int row) {
            Tablet tablet = archive.tablets[tabletAt[seat]];
            rowAt[seat] = row;
            newCountAt[seat] = 0;
            for (int i = 0; i < tablet.lengths[row]; i++) {
                int told = tablet.signAt(row, i);
                if (told == NONE) {
                    continue;
                }
                int sign = archive.stand[told];
                int cell = cellsAt[seat][i];
                if (!agrees(sign, cell)) {
                    return false;
                }
                if (cellOf[sign] == NONE) {
                    give(sign, cell);
                    newAt[seat][newCountAt[seat]] = sign;
                    newCountAt[seat]++;
                }
            }
            return true;
        }

        private void lift(int seat) {
            rowAt[seat] = NONE;
            for (int i = 0; i < newCountAt[seat]; i++) {
                takeBack(newAt[seat][i]);
            }
            newCountAt[seat] = 0;
        }

        private boolean agrees(int sign, int cell) {
            if (cellOf[sign] != NONE) {
                return cellOf[sign] == cell;
            }
            long sameConsonant = byConsonant[cell / VOWELS];
            long sameVowel = byVowel[cell % VOWELS];
            return (sameConsonant & sameVowel) == 0
                    && agreesBy(CONSONANT, sign, sameConsonant)
                    && agreesBy(VOWEL, sign, sameVowel);
        }

        private boolean agreesBy(int sort, int sign, long same) {
            return (grid.classes[sort][sign] & given & ~same) == 0
                    && (grid.parted[sort][sign] & same) == 0;
        }

        private void give(int sign, int cell) {
            long bit = 1L << sign;
            cellOf[sign] = cell;
            given |= bit;
            byConsonant[cell / VOWELS] |= bit;
            byVowel[cell % VOWELS] |= bit;
        }

        private void takeBack(int sign) {
            int cell = cellOf[sign];
            if (cell == NONE) {
                return;
            }
            long others = ~(1L << sign);
            cellOf[sign] = NONE;
            given &= others;
            byConsonant[cell / VOWELS] &= others;
            byVowel[cell % VOWELS] &= others;
        }

        private void note(int seat, int times) {
            for (int i = 0; i < newCountAt[seat]; i++) {
                int sign = newAt[seat][i];
                if (cellOf[sign] != NONE) {
                    tally[sign * CELLS + cellOf[sign]] += times;
                    tallied |= 1L << sign;
                }
            }
        }
    }

    /** What all WAYS, and what all WORDS, say of each SIGN. */
    private static final class Census {
        static final int FIRST = 0;
        static final int LAST = 1;
        static final int ALONE = 2;
        static final int WITHIN = 3;
        static final int IN_ALL = 4;
        static final int PLACE_KINDS = 5;

        /** How many WAYS there are. */
        int total;
        /** The NAMES in DOUBT, as bits. */
        int doubted;
        /** By SIGN, then by kind of place: how often it is there. */
        final int[] places = new int[SIGNS * PLACE_KINDS];
        private final Archive archive;
        private final Search search;
        private boolean waysCounted;
        private boolean doubtFound;
        private boolean placesCounted;

        Census(Archive archive, Search search) {
            this.archive = archive;
            this.search = search;
        }

        void forgetCounts() {
            waysCounted = false;
            doubtFound = false;
            placesCounted = false;
        }

        // -- over all WAYS

        void countWays() {
            if (!waysCounted) {
                waysCounted = true;
                total = search.tallyWays();
            }
        }

        int waysWith(int sign, int cell) {
            return search.tally[sign * CELLS + cell];
        }

        int forcedCell(int sign) {
            int cell = possibleCell(sign, 0);
            return cell != NONE && waysWith(sign, cell) == total ? cell : NONE;
        }

        /** CELL i of those that a SIGN has in some WAY. */
        int possibleCell(int sign, int i) {
            int left = i;
            for (int cell = 0; cell < CELLS && has(search.tallied, sign); cell++) {
                if (waysWith(sign, cell) > 0) {
                    if (left == 0) {
                        return cell;
                    }
                    left--;
                }
            }
            return NONE;
        }

        /** The SIGN that has a CELL in all WAYS. */
        int holderOf(int cell) {
            for (int s = 0; s < SIGNS; s++) {
                if (total > 0 && waysWith(s, cell) == total) {
                    return s;
                }
            }
            return NONE;
        }

        int settlingSign() {
            int best = 0;
            int fewest = mostAgreeing(0);
            for (int s = 1; s < SIGNS; s++) {
                int agreeing = mostAgreeing(s);
                if (agreeing < fewest) {
                    best = s;
                    fewest = agreeing;
                }
            }
            return best;
        }

        /** The most WAYS that agree about a SIGN, on its CELL or that it has none. */
        int mostAgreeing(int sign) {
            int agreeing = 0;
            int without = total;
            for (int cell = 0; cell < CELLS && has(search.tallied, sign); cell++) {
                int times = waysWith(sign, cell);
                agreeing = Math.max(agreeing, times);
                without -= times;
            }
            return Math.max(agreeing, without);
        }

        void findDoubt() {
            if (doubtFound) {
                return;
            }
            doubtFound = true;
            int taking = 0;
            for (int i = 0; i < archive.nameCount; i++) {
                if (archive.nameCounts(i)) {
                    taking |= 1 << i;
                }
            }
            // Without any NAME there is a WAY: the whole set does, if no smaller one.
            doubted = taking;
            for (int set = 0; set < taking; set++) {
                boolean fewer = Integer.bitCount(set) < Integer.bitCount(doubted);
                if (fewer && (set & ~taking) == 0 && search.hasWayWithout(set)) {
                    doubted = set;
                }
            }
        }

        // -- over all WORDS

        void countPlaces() {
            if (placesCounted) {
                return;
            }
            placesCounted = true;
            Arrays.fill(places, 0);
            for (int t = 0; t < archive.tabletCount; t++) {
                if (archive.tabletCounts(t)) {
                    countPlacesOf(archive.tablets[t]);
                }
            }
        }

        private void countPlacesOf(Tablet tablet) {
            for (int row = 0; row < tablet.rows; row++) {
                for (int i = 0; i < tablet.lengths[row]; i++) {
                    int told = tablet.signAt(row, i);
                    if (told != NONE) {
                        int base = archive.stand[told] * PLACE_KINDS;
                        places[base + kindOfPlace(i, tablet.lengths[row])]++;
                        places[base + IN_ALL]++;
                    }
                }
            }
        }

        private static int kindOfPlace(int i, int length) {
            if (length == 1) {
                return ALONE;
            }
            if (i == 0) {
                return FIRST;
            }
            return i == length - 1 ? LAST : WITHIN;
        }

        int signRanked(int rank) {
            for (int s = 0; s < SIGNS; s++) {
                if (isAnywhere(s) && countAhead(s) == rank) {
                    return s;
                }
            }
            return NONE;
        }

        private boolean isAnywhere(int sign) {
            return places[sign * PLACE_KINDS + IN_ALL] > 0;
        }

        private int countAhead(int sign) {
            int ahead = 0;
            for (int s = 0; s < SIGNS; s++) {
                if (s != sign && isAnywhere(s) && isAhead(s, sign)) {
                    ahead++;
                }
            }
            return ahead;
        }

        /** Compares the two quotients without dividing. */
        private boolean isAhead(int sign, int other) {
            int mine = places[sign * PLACE_KINDS + FIRST] * places[other * PLACE_KINDS + IN_ALL];
            int its = places[other * PLACE_KINDS + FIRST] * places[sign * PLACE_KINDS + IN_ALL];
            return mine != its ? mine > its : sign < other;
        }
    }
}
