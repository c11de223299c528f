import java.util.ArrayList;
import java.util.List;
import java.util.Map;
import java.util.NoSuchElementException;
import java.util.TreeMap;

/** Runs of made-up calls, always the same ones, on GridRoom and on the Oracle: all answers must be alike. */
public final class OracleTest {
    private static final int THROWN = -99;
    private static final int USUAL_RUNS = 500;

    private long state;
    private GridRoom room;
    private Oracle oracle;
    private List<String> log;
    private int wrong;
    private final Map<String, Integer> seen = new TreeMap<>();

    /** How a run's texts are made. */
    private int signs;
    private int mostLength;
    private int mostRows;
    private int unread;
    private String consonants;
    private String vowels;
    private int mostTablets;
    /** What each SIGN is, so that NAMES can be such as are there. */
    private final String[] truth = new String[40];
    /** How often, of a hundred, what is told is true. */
    private int honest;
    private int doubling;
    private int nameTablet;
    private int mostNames;
    /** How often, of a hundred, a ROW is the one ahead but for one place. */
    private int varying;

    public static void main(String[] args) {
        OracleTest test = new OracleTest();
        int runs = args.length > 0 ? Integer.parseInt(args[0]) : USUAL_RUNS;
        long base = args.length > 1 ? Long.parseLong(args[1]) : 0;
        for (int run = 0; run < runs && test.wrong == 0; run++) {
            test.run(base + run);
        }
        test.demandVariety(runs);
        if (args.length > 2) {
            System.out.println(test.seen);
        }
        System.out.println(test.wrong == 0 ? "all answers are alike" : "answers are not alike");
        if (test.wrong != 0) {
            System.exit(1);
        }
    }

    /** A linear generator: the runs are the same wherever the test runs. */
    private int next(int bound) {
        state = state * 6364136223846793005L + 1442695040888963407L;
        return (int) ((state >>> 33) % bound);
    }

    private boolean chance(int percent) {
        return next(100) < percent;
    }

    private void run(long seed) {
        state = seed * 7919 + 17;
        next(2);
        room = new GridRoom();
        oracle = new Oracle();
        log = new ArrayList<>();
        signs = 2 + next(9);
        mostLength = 1 + next(4);
        mostRows = 1 + next(chance(80) ? 4 : 8);
        unread = chance(50) ? 0 : next(40);
        consonants = chance(50) ? "kt" : "ktrsz";
        vowels = chance(50) ? "a" : chance(50) ? "ae" : "aeiou";
        mostTablets = 1 + next(5);
        honest = chance(70) ? 80 + next(21) : next(100);
        doubling = chance(60) ? 0 : next(100);
        mostNames = 1 + next(7);
        varying = 40;
        if (chance(30)) {
            // A run of many ROWS that are alike but for one place.
            varying = 90;
            mostRows = 8;
            mostLength = 2 + next(3);
            signs = 2 + next(4);
            unread = 0;
            mostTablets = 2 + next(5);
            mostNames = next(3);
        }
        makeTruth();
        for (int i = 0; i < 130 && wrong == 0; i++) {
            step();
            if (i == 40 || i == 129) sweep(Math.max(0, room.count(0) - next(2)));
        }
    }

    /** All that can be asked of a DAY, within the run's few SIGNS. */
    private void sweep(int day) {
        for (int sort = 0; sort < 2; sort++) {
            check("links", sort, day, 0, 0);
            for (int s = 0; s < signs; s++) check("classOf", sort, s, day, 0);
        }
        for (int a = 0; a < signs; a++) {
            for (int b = 0; b <= a; b++) check("pairs", next(5), chance(5) ? b : a, b, day);
        }
        for (int what = 0; what < 4; what++) check("clash", day, what, 0, 0);
        for (int i = 0; i < 5; i++) {
            for (int what = 0; what < 3; what++) check("reason", day, i, what, 0);
        }
        sweepWays(day);
        for (int s = 0; s < signs; s++) {
            check("rank", day, s, 0, 0);
            check("often", s, day, next(5), 0);
        }
    }

    private void sweepWays(int day) {
        check("ways", day, 0, 0, 0);
        int k = next(Math.max(1, room.ways(day)));
        for (int i = 0; i < 6; i++) check("way", day, k, i, 0);
        for (int s = 0; s < signs; s++) {
            check("given", day, k, s, 0);
            check("forced", day, s, 0, 0);
            for (int i = 0; i < 3; i++) check("could", day, s, i, next(2));
        }
        for (int i = 0; i < 5; i++) check("inGrid", day, someCell(), 0, 0);
        for (int what = 0; what < 2; what++) {
            check("settles", day, what, 0, 0);
            check("doubt", day, what, 0, 0);
        }
        for (int t = 0; t < Math.min(4, room.count(1)); t++) {
            check("reads", day, t, next(4), 0);
            for (int i = 0; i < 8; i++) check("letter", i, 0, 0, 0);
        }
    }

    private void makeTruth() {
        List<String> cells = new ArrayList<>();
        for (int i = -1; i < consonants.length(); i++) {
            for (int j = 0; j < vowels.length(); j++) {
                cells.add((i < 0 ? "" : "" + consonants.charAt(i)) + vowels.charAt(j));
            }
        }
        for (int s = 0; s < 40; s++) {
            truth[s] = cells.isEmpty() ? "ka" : cells.remove(next(cells.size()));
        }
    }

    private void step() {
        int kind = next(100);
        if (kind < 9) {
            tape(tabletText());
            if (room.count(1) < mostTablets || chance(3)) check("tablet", 0, 0, 0, 0);
            check("place", 0, 0, 0, 0);
        } else if (kind < 13) {
            tape(rulesText());
            check("rules", 0, 0, 0, 0);
            check("place", 0, 0, 0, 0);
        } else if (kind < 19) {
            tape(nameText());
            if (room.count(9) < mostNames) check("name", nameTablet, 0, 0, 0);
        } else if (kind < 23) {
            tellShare();
        } else if (kind < 27) {
            if (chance(doubling)) check("holds", handNumber(), signNumber(), signNumber(), chance(95) ? next(3) : odd());
        } else if (kind < 28) {
            check("trust", handNumber(), chance(90) ? next(100) : odd(), 0, 0);
        } else if (kind < 31) {
            if (chance(40)) check("away", chance(95) ? next(3) : odd(), chance(90) ? next(5) : odd(), 0, 0);
        } else if (kind < 34) {
            check("day", chance(80) ? next(3) : odd(), 0, 0, 0);
        } else if (kind < 44) {
            tape(nameText());
            askWithTape();
        } else {
            ask();
        }
    }

    private void tellShare() {
        int sort = sortNumber();
        int a = signNumber();
        int b = signNumber();
        boolean like = next(2) == 1;
        if (chance(honest) && a >= 0 && a < 40 && b >= 0 && b < 40) {
            String x = truth[a];
            String y = truth[b];
            like = sort == 1 ? x.charAt(x.length() - 1) == y.charAt(y.length() - 1)
                : x.substring(0, x.length() - 1).equals(y.substring(0, y.length() - 1));
        }
        check("share", sort, a, b, like ? 1 : 0);
    }

    private void askWithTape() {
        switch (next(3)) {
            case 0: check("would", known(), chance(60) ? nameTablet : tabletNumber(), 0, 0); break;
            case 1: check("fits", known(), 0, 0, 0); break;
            default: check("where", known(), 0, 0, 0); break;
        }
    }

    private void ask() {
        int few = chance(95) ? next(4) : odd();
        switch (next(22)) {
            case 0: check("sign", signNumber(), known(), 0, 0); break;
            case 1: check("told", tabletNumber(), few, next(4), 0); break;
            case 2: check("pairs", few, signNumber(), signNumber(), known()); break;
            case 3: check("links", sortNumber(), known(), 0, 0); break;
            case 4: check("classOf", sortNumber(), signNumber(), known(), 0); break;
            case 5: check("clash", known(), few, 0, 0); break;
            case 6: check("reason", known(), few, next(4), 0); break;
            case 7: check("spelled", nameNumber(), known(), 0, 0); break;
            case 8: check("cell", nameNumber(), few, known(), 0); break;
            case 9: check("ways", known(), 0, 0, 0); break;
            case 10: check("way", known(), few, nameNumber(), 0); break;
            case 11: check("given", known(), few, signNumber(), 0); break;
            case 12: check("forced", known(), signNumber(), 0, 0); break;
            case 13: check("reads", known(), tabletNumber(), few, 0); break;
            case 14: check("letter", chance(90) ? next(8) : odd(), 0, 0, 0); break;
            case 15: check("settles", known(), next(3) - (chance(10) ? 1 : 0), 0, 0); break;
            case 16: check("doubt", known(), next(3), 0, 0); break;
            case 17: check("could", known(), signNumber(), few, next(3)); break;
            case 18: check("inGrid", known(), chance(95) ? someCell() : odd(), 0, 0); break;
            case 19: check("often", signNumber(), known(), chance(95) ? next(6) : odd(), 0); break;
            case 20: check("rank", known(), chance(95) ? next(8) : odd(), 0, 0); break;
            default: check("count", chance(95) ? next(11) : odd(), 0, 0, 0); break;
        }
    }

    // ---- numbers, now and then such as there are none

    private int odd() {
        int[] all = {-1, -2, 40, 41, 135, 99, 100, 300, 1000, 1001, Integer.MAX_VALUE, Integer.MIN_VALUE};
        return all[next(all.length)];
    }

    private int known() {
        return chance(90) ? Math.max(0, room.count(0) - (chance(70) ? 0 : next(4))) : odd();
    }

    private int signNumber() {
        return chance(95) ? next(signs) : chance(50) ? next(40) : odd();
    }

    private int tabletNumber() {
        return chance(95) ? next(Math.max(1, room.count(1))) : odd();
    }

    private int nameNumber() {
        return chance(95) ? next(Math.max(1, room.count(4))) : odd();
    }

    private int sortNumber() {
        return chance(97) ? next(2) : odd();
    }

    private int handNumber() {
        return chance(97) ? next(4) : odd();
    }

    private int someCell() {
        int vowel = "aeiou".indexOf(vowels.charAt(next(vowels.length())));
        return 5 * (chance(20) ? 0 : consonants.charAt(next(consonants.length())) - 'a' + 1) + vowel;
    }

    // ---- texts

    private String tabletText() {
        StringBuilder text = new StringBuilder();
        int rows = 1 + next(mostRows);
        List<String> row = new ArrayList<>();
        for (int r = 0; r < rows; r++) {
            if (!row.isEmpty() && chance(varying)) {
                row.set(next(row.size()), place());
            } else {
                int length = chance(3) ? 5 + next(3) : 1 + next(mostLength);
                row.clear();
                for (int i = 0; i < length; i++) row.add(place());
            }
            text.append(String.join(" ", row)).append(chance(50) ? ". " : ".");
        }
        return chance(12) ? spoiled(text) : text.toString();
    }

    private String place() {
        return next(100) < unread ? "?" : chance(1) ? "4" + next(10) : "" + next(signs);
    }

    private String rulesText() {
        StringBuilder text = new StringBuilder();
        int clauses = chance(5) ? 11 + next(3) : next(5);
        for (int c = 0; c < clauses; c++) {
            clause(text);
            text.append(chance(80) ? ";" : " ; ");
        }
        return chance(15) ? spoiled(text) : text.toString();
    }

    private void clause(StringBuilder text) {
        int kind = next(10);
        if (kind < 6) {
            text.append(chance(50) ? "consonant " : "vowel ");
            text.append(chance(40) ? "last" : chance(50) ? "first" : "" + (chance(95) ? 1 + next(3) : next(10)));
            if (chance(60)) text.append(" length ").append(chance(95) ? 2 + next(2) : next(9));
            if (chance(30)) text.append(" count ").append(next(3) + (chance(95) ? 1 : 0));
        } else if (kind < 8) {
            char from = letter();
            char to = chance(90) && vowels.indexOf(from) >= 0 ? vowels.charAt(next(vowels.length())) : letter();
            text.append("write ").append(from).append(" as ").append(to);
        } else {
            text.append("drop ").append(consonants.charAt(next(consonants.length())));
        }
    }

    private char letter() {
        return chance(70) ? consonants.charAt(next(consonants.length())) : vowels.charAt(next(vowels.length()));
    }

    private String nameText() {
        nameTablet = tabletNumber();
        return chance(honest) ? trueName() : anyName();
    }

    /** A WORD of the TABLET as the truth reads it. */
    private String trueName() {
        StringBuilder text = new StringBuilder();
        int row = next(mostRows);
        try {
            for (int i = 0; i < 6 && text.length() < 7; i++) {
                int sign = room.told(nameTablet, row, i);
                text.append(truth[sign < 0 ? next(signs) : sign]);
            }
        } catch (NoSuchElementException e) {
            return text.length() > 0 ? text.toString() : anyName();
        }
        return text.toString();
    }

    private String anyName() {
        StringBuilder text = new StringBuilder();
        int parts = 1 + next(Math.max(1, chance(80) ? mostLength : 4));
        for (int i = 0; i < parts; i++) {
            if (chance(85)) text.append(consonants.charAt(next(consonants.length())));
            if (chance(88)) text.append(vowels.charAt(next(vowels.length())));
        }
        return chance(3) ? spoiled(text) : text.toString();
    }

    /** A text with some bytes changed, put in, or cut off. */
    private String spoiled(StringBuilder text) {
        String odd = "0123456789?.;ab asrp\n\tZ#";
        for (int times = 1 + next(2); times > 0; times--) {
            int at = next(text.length() + 1);
            char c = odd.charAt(next(odd.length()));
            switch (next(3)) {
                case 0: text.insert(at, c); break;
                case 1: if (at < text.length()) text.setCharAt(at, c); break;
                default: if (chance(50)) text.setLength(at); else if (at < text.length()) text.deleteCharAt(at); break;
            }
        }
        return text.toString();
    }

    private void tape(String whole) {
        String text = whole.length() > 300 ? whole.substring(0, 300) : whole;
        if (chance(97)) check("end", 0, 0, 0, 0);
        int had = room.count(6);
        for (int at = 0; at < text.length(); at += 20) {
            int[] n = new int[5];
            for (int i = 0; i < 20; i++) {
                int b = at + i < text.length() ? text.charAt(at + i) : ' ';
                n[i / 4] = n[i / 4] << 8 | b;
            }
            log.add("feed " + text.substring(at, Math.min(text.length(), at + 20)));
            compare("feed", room.feed(n[0], n[1], n[2], n[3], n[4]), oracle.feed(n[0], n[1], n[2], n[3], n[4]));
        }
        check("end", had + text.length(), 0, 0, 0);
    }

    // ---- calls

    private void check(String call, int a, int b, int c, int d) {
        log.add(call + "(" + a + ", " + b + ", " + c + ", " + d + ")");
        compare(call, onRoom(call, a, b, c, d), onOracle(call, a, b, c, d));
    }

    private void compare(String call, int got, int due) {
        seen.merge(call + " " + Math.min(due, 3), 1, Integer::sum);
        if (got != due) {
            wrong++;
            log.forEach(System.out::println);
            System.out.println("answered " + got + ", due is " + due);
        }
    }

    private int onRoom(String call, int a, int b, int c, int d) {
        switch (call) {
            case "day": return room.day(a);
            case "end": return room.end(a);
            case "tablet": return room.tablet();
            case "rules": return room.rules();
            case "place": return room.place();
            case "away": return room.away(a, b) ? 1 : 0;
            case "trust": return room.trust(a, b) ? 1 : 0;
            case "holds": return room.holds(a, b, c, d) ? 1 : 0;
            case "sign": return room.sign(a, b);
            case "told":
                try {
                    return room.told(a, b, c);
                } catch (NoSuchElementException e) {
                    return THROWN;
                }
            case "share": return room.share(a, b, c, d == 1);
            case "pairs": return room.pairs(a, b, c, d);
            case "links": return room.links(a, b);
            case "classOf": return room.classOf(a, b, c);
            case "clash": return room.clash(a, b);
            case "reason": return room.reason(a, b, c);
            case "name": return room.name(a);
            case "spelled": return room.spelled(a, b);
            case "cell": return room.cell(a, b, c);
            case "ways": return room.ways(a);
            case "way": return room.way(a, b, c);
            case "given": return room.given(a, b, c);
            case "forced": return room.forced(a, b);
            case "reads": return room.reads(a, b, c);
            case "letter": return room.letter(a);
            case "settles": return room.settles(a, b);
            case "would": return room.would(a, b);
            case "fits": return room.fits(a);
            case "doubt": return room.doubt(a, b);
            case "could": return room.could(a, b, c, d);
            case "inGrid": return room.inGrid(a, b);
            case "where": return room.where(a);
            case "often": return room.often(a, b, c);
            case "rank": return room.rank(a, b);
            case "count": return room.count(a);
            default: throw new IllegalArgumentException(call);
        }
    }

    private int onOracle(String call, int a, int b, int c, int d) {
        switch (call) {
            case "day": return oracle.day(a);
            case "end": return oracle.end(a);
            case "tablet": return oracle.tablet();
            case "rules": return oracle.rules();
            case "place": return oracle.place();
            case "away": return oracle.away(a, b) ? 1 : 0;
            case "trust": return oracle.trust(a, b) ? 1 : 0;
            case "holds": return oracle.holds(a, b, c, d) ? 1 : 0;
            case "sign": return oracle.sign(a, b);
            case "told":
                try {
                    return oracle.told(a, b, c);
                } catch (NoSuchElementException e) {
                    return THROWN;
                }
            case "share": return oracle.share(a, b, c, d == 1);
            case "pairs": return oracle.pairs(a, b, c, d);
            case "links": return oracle.links(a, b);
            case "classOf": return oracle.classOf(a, b, c);
            case "clash": return oracle.clash(a, b);
            case "reason": return oracle.reason(a, b, c);
            case "name": return oracle.name(a);
            case "spelled": return oracle.spelled(a, b);
            case "cell": return oracle.cell(a, b, c);
            case "ways": return oracle.ways(a);
            case "way": return oracle.way(a, b, c);
            case "given": return oracle.given(a, b, c);
            case "forced": return oracle.forced(a, b);
            case "reads": return oracle.reads(a, b, c);
            case "letter": return oracle.letter(a);
            case "settles": return oracle.settles(a, b);
            case "would": return oracle.would(a, b);
            case "fits": return oracle.fits(a);
            case "doubt": return oracle.doubt(a, b);
            case "could": return oracle.could(a, b, c, d);
            case "inGrid": return oracle.inGrid(a, b);
            case "where": return oracle.where(a);
            case "often": return oracle.often(a, b, c);
            case "rank": return oracle.rank(a, b);
            case "count": return oracle.count(a);
            default: throw new IllegalArgumentException(call);
        }
    }

    /** Runs in which hardly anything happens would show nothing. */
    private void demandVariety(int runs) {
        if (runs < USUAL_RUNS) return;
        String[] due = {"tablet -2", "tablet -3", "tablet -4", "rules -2", "rules -3", "rules -4", "clash 1", "clash 2",
            "clash 3", "reason 1", "ways 0", "ways 1", "ways 2", "ways 3", "way 1", "given 3", "forced 3", "settles 2",
            "would 0", "would 1", "would 3", "fits 0", "fits 1", "fits 3", "doubt 1", "doubt 2", "could 3", "inGrid 1",
            "where -1", "where 1", "pairs 1", "pairs 2", "links 2", "rank 2", "often 3", "told -99", "told -1"};
        for (String one : due) {
            if (!seen.containsKey(one)) {
                wrong++;
                System.out.println("no call was answered so: " + one);
            }
        }
    }
}
