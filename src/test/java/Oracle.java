import java.util.ArrayDeque;
import java.util.ArrayList;
import java.util.Arrays;
import java.util.HashMap;
import java.util.HashSet;
import java.util.LinkedHashSet;
import java.util.List;
import java.util.Map;
import java.util.NoSuchElementException;
import java.util.Set;
import java.util.TreeMap;
import java.util.TreeSet;

/**
 * The document once more, written the slow way: every answer is worked out anew from what was told,
 * every WAY is tried out in full, nothing is kept. It shares no code with GridRoom.
 */
final class Oracle {
    private static final int NONE = -1;

    private record Held(int day, int hand, int a, int b, int v) {}

    private static class Thing {
        int came;
        int gone = Integer.MAX_VALUE;

        boolean counts(int known) {
            return came <= known && known < gone;
        }
    }

    private static final class Tab extends Thing {
        List<List<Integer>> rows = new ArrayList<>();
    }

    private static final class Shr extends Thing {
        int sort;
        int a;
        int b;
        boolean is;
    }

    private static final class Nam extends Thing {
        String text;
        int tablet;
    }

    private static final class Rul {
        int day;
        List<List<String>> clauses = new ArrayList<>();
    }

    private record Token(String text, int start) {
        boolean isNumber() {
            return text.matches("[0-9]{1,2}");
        }

        boolean isLetter() {
            return text.matches("[a-z]");
        }

        int value() {
            return Integer.parseInt(text);
        }
    }

    /** A FAULT: kind and place. */
    private record Fault(int kind, int place) {}

    private int today;
    private String tape = "";
    private String out = "";
    private int faultPlace = NONE;
    private final int[] trust = {10, 10, 10, 10};
    private final List<Held> held = new ArrayList<>();
    private final List<Tab> tabs = new ArrayList<>();
    private final List<Shr> shares = new ArrayList<>();
    private final List<Nam> names = new ArrayList<>();
    private final List<Rul> rulesTold = new ArrayList<>();

    private boolean isDay(int known) {
        return 0 <= known && known <= today;
    }

    private static boolean isSign(int s) {
        return 0 <= s && s < 40;
    }

    private static boolean isSort(int sort) {
        return sort == 0 || sort == 1;
    }

    int day(int n) {
        if (n < 0 || n > 1000 || today + n > 100000) return NONE;
        return today += n;
    }

    int feed(int a, int b, int c, int d, int e) {
        if (tape.length() > 280) return NONE;
        StringBuilder more = new StringBuilder(tape);
        for (int x : new int[] {a, b, c, d, e}) {
            for (int k = 3; k >= 0; k--) more.append((char) ((x >> (8 * k)) & 255));
        }
        tape = more.toString();
        return tape.length();
    }

    int end(int n) {
        if (n < 0 || n > tape.length()) return NONE;
        tape = tape.substring(0, n);
        return n;
    }

    // ---- texts

    private static List<Token> tokens(String text) {
        List<Token> all = new ArrayList<>();
        int i = 0;
        while (i < text.length()) {
            char c = text.charAt(i);
            int j = i + 1;
            if (c == ' ' || c == '\n') {
                i++;
                continue;
            }
            if (c >= 'a' && c <= 'z') {
                while (j < text.length() && text.charAt(j) >= 'a' && text.charAt(j) <= 'z') j++;
            } else if (c >= '0' && c <= '9') {
                while (j < text.length() && text.charAt(j) >= '0' && text.charAt(j) <= '9') j++;
            }
            all.add(new Token(text.substring(i, j), i));
            i = j;
        }
        all.add(new Token("", text.length()));
        return all;
    }

    private Fault parseTablet(String text, Tab into) {
        List<Integer> row = new ArrayList<>();
        for (Token t : tokens(text)) {
            boolean isPlace = t.isNumber() || t.text.equals("?");
            if (isPlace) {
                if (row.isEmpty() && into.rows.size() == 8) return new Fault(3, t.start);
                if (row.size() == 6) return new Fault(3, t.start);
                if (t.isNumber() && t.value() > 39) return new Fault(2, t.start);
                row.add(t.isNumber() ? t.value() : NONE);
            } else if (t.text.equals(".") && !row.isEmpty()) {
                into.rows.add(row);
                row = new ArrayList<>();
            } else if (t.text.isEmpty() && row.isEmpty() && !into.rows.isEmpty()) {
                return null;
            } else {
                return new Fault(1, t.start);
            }
        }
        return null;
    }

    /** What may come next, told by the words of the CLAUSE that are there. */
    private Fault parseRules(String text, Rul into) {
        List<String> clause = new ArrayList<>();
        for (Token t : tokens(text)) {
            if (t.text.isEmpty() && clause.isEmpty()) return null;
            if (t.text.equals(";") && isWhole(clause)) {
                into.clauses.add(clause);
                clause = new ArrayList<>();
                continue;
            }
            int kind = faultOf(clause, t, into.clauses.size());
            if (kind != 0) return new Fault(kind, t.start);
            clause.add(t.text);
        }
        return null;
    }

    private static boolean isWhole(List<String> c) {
        if (c.isEmpty()) return false;
        switch (c.get(0)) {
            case "write": return c.size() == 4;
            case "drop": return c.size() == 2;
            default: return c.size() == 2 || c.size() == 4 || c.size() == 6;
        }
    }

    private static int faultOf(List<String> c, Token t, int before) {
        if (c.isEmpty()) {
            if (!Set.of("consonant", "vowel", "write", "drop").contains(t.text)) return 1;
            return before == 12 ? 3 : 0;
        }
        int n = c.size();
        if (c.get(0).equals("drop")) {
            if (n != 1 || !t.isLetter()) return 1;
            return vowel(t.text.charAt(0)) >= 0 ? 2 : 0;
        }
        if (c.get(0).equals("write")) {
            if (n == 1) return t.isLetter() ? 0 : 1;
            if (n == 2) return t.text.equals("as") ? 0 : 1;
            if (n != 3 || !t.isLetter()) return 1;
            return (vowel(t.text.charAt(0)) >= 0) != (vowel(c.get(1).charAt(0)) >= 0) ? 2 : 0;
        }
        if (n == 1) {
            if (t.text.equals("first") || t.text.equals("last")) return 0;
            if (!t.isNumber()) return 1;
            return t.value() == 0 || t.value() > 6 ? 2 : 0;
        }
        String latest = c.get(n - 1);
        if (latest.equals("length")) {
            if (!t.isNumber()) return 1;
            return t.value() < 2 || t.value() > 6 ? 2 : 0;
        }
        if (latest.equals("count")) {
            if (!t.isNumber()) return 1;
            return t.value() == 0 ? 2 : 0;
        }
        if (t.text.equals("length")) return n == 2 ? 0 : 1;
        if (t.text.equals("count")) return c.contains("count") ? 1 : 0;
        return 1;
    }

    private static int vowel(char c) {
        return "aeiou".indexOf(c);
    }

    int tablet() {
        if (tabs.size() == 24) return NONE;
        Tab made = new Tab();
        Fault fault = parseTablet(tape, made);
        tape = "";
        faultPlace = fault == null ? NONE : fault.place;
        if (fault != null) return -1 - fault.kind;
        made.came = today;
        tabs.add(made);
        return tabs.size() - 1;
    }

    int rules() {
        if (rulesTold.size() == 10) return NONE;
        Rul made = new Rul();
        Fault fault = parseRules(tape, made);
        tape = "";
        faultPlace = fault == null ? NONE : fault.place;
        if (fault != null) return -1 - fault.kind;
        made.day = today;
        rulesTold.add(made);
        return made.clauses.size();
    }

    int place() {
        return faultPlace;
    }

    boolean away(int what, int k) {
        List<? extends Thing> all = what == 0 ? tabs : what == 1 ? shares : what == 2 ? names : List.of();
        if (k < 0 || k >= all.size() || all.get(k).gone != Integer.MAX_VALUE) return false;
        all.get(k).gone = today;
        return true;
    }

    boolean trust(int hand, int v) {
        if (hand < 0 || hand > 3 || v < 0 || v > 99) return false;
        trust[hand] = v;
        return true;
    }

    boolean holds(int hand, int a, int b, int v) {
        if (hand < 0 || hand > 3 || !isSign(a) || !isSign(b) || a == b || v < 0 || v > 2) return false;
        if (held.size() == 200) return false;
        held.add(new Held(today, hand, Math.min(a, b), Math.max(a, b), v));
        return true;
    }

    // ---- signs

    private int[] standing(int known) {
        Map<List<Integer>, Integer> latest = new HashMap<>();
        for (Held h : held) {
            if (h.day <= known) latest.put(List.of(h.hand, h.a, h.b), h.v);
        }
        int[][] weight = new int[40][40];
        for (Map.Entry<List<Integer>, Integer> e : latest.entrySet()) {
            int by = e.getValue() == 1 ? 1 : e.getValue() == 0 ? -1 : 0;
            weight[e.getKey().get(1)][e.getKey().get(2)] += by * trust[e.getKey().get(0)];
        }
        int[] stand = new int[40];
        for (int s = 0; s < 40; s++) stand[s] = s;
        boolean changed = true;
        while (changed) {
            changed = false;
            for (int a = 0; a < 40; a++) {
                for (int b = a + 1; b < 40; b++) {
                    if (weight[a][b] > 0 && stand[a] != stand[b]) {
                        stand[a] = stand[b] = Math.min(stand[a], stand[b]);
                        changed = true;
                    }
                }
            }
        }
        return stand;
    }

    int sign(int s, int known) {
        return isSign(s) && isDay(known) ? standing(known)[s] : NONE;
    }

    int told(int tablet, int w, int i) {
        if (tablet < 0 || tablet >= tabs.size()) throw new NoSuchElementException();
        List<List<Integer>> rows = tabs.get(tablet).rows;
        if (w < 0 || w >= rows.size() || i < 0 || i >= rows.get(w).size()) throw new NoSuchElementException();
        return rows.get(w).get(i);
    }

    int share(int sort, int a, int b, boolean is) {
        if (!isSort(sort) || !isSign(a) || !isSign(b) || a == b || shares.size() == 60) return NONE;
        Shr s = new Shr();
        s.sort = sort;
        s.a = a;
        s.b = b;
        s.is = is;
        s.came = today;
        shares.add(s);
        return shares.size() - 1;
    }

    // ---- links

    private Rul rulesOn(int known) {
        Rul latest = new Rul();
        for (Rul r : rulesTold) if (r.day <= known) latest = r;
        return latest;
    }

    private List<Integer> stood(List<Integer> row, int[] stand) {
        List<Integer> all = new ArrayList<>();
        for (int s : row) all.add(s == NONE ? NONE : stand[s]);
        return all;
    }

    private int pairsTelling(List<String> clause, int a, int b, int known) {
        if (!clause.get(0).equals("consonant") && !clause.get(0).equals("vowel")) return 0;
        int[] stand = standing(known);
        Set<List<Integer>> rows = new LinkedHashSet<>();
        for (Tab t : tabs) {
            if (!t.counts(known)) continue;
            for (List<Integer> row : t.rows) if (!row.contains(NONE)) rows.add(stood(row, stand));
        }
        int least = clause.contains("length") ? Integer.parseInt(clause.get(clause.indexOf("length") + 1)) : 3;
        int n = 0;
        for (List<Integer> row : rows) {
            if (row.size() < least) continue;
            String where = clause.get(1);
            int p = where.equals("first") ? 0 : where.equals("last") ? row.size() - 1 : Integer.parseInt(where) - 1;
            if (p >= row.size() || row.get(p) != a) continue;
            List<Integer> other = new ArrayList<>(row);
            other.set(p, b);
            if (rows.contains(other)) n++;
        }
        return n;
    }

    int pairs(int c, int a, int b, int known) {
        if (!isSign(a) || !isSign(b) || !isDay(known)) return NONE;
        List<List<String>> clauses = rulesOn(known).clauses;
        if (c < 0 || c >= clauses.size()) return NONE;
        int[] stand = standing(known);
        return stand[a] == stand[b] ? 0 : pairsTelling(clauses.get(c), stand[a], stand[b], known);
    }

    private boolean[][] linkTable(int sort, int known) {
        int[] stand = standing(known);
        boolean[][] linked = new boolean[40][40];
        for (List<String> c : rulesOn(known).clauses) {
            if (!c.get(0).equals(sort == 0 ? "consonant" : "vowel")) continue;
            int least = c.contains("count") ? Integer.parseInt(c.get(c.indexOf("count") + 1)) : 1;
            Set<Integer> used = new TreeSet<>();
            for (Tab t : tabs) for (List<Integer> row : t.rows) for (int s : row) if (s != NONE) used.add(stand[s]);
            for (int a : used) {
                for (int b : used) {
                    if (a < b && pairsTelling(c, a, b, known) >= least) linked[a][b] = linked[b][a] = true;
                }
            }
        }
        for (Shr s : shares) {
            int a = stand[s.a];
            int b = stand[s.b];
            if (s.sort == sort && s.is && s.counts(known) && a != b) linked[a][b] = linked[b][a] = true;
        }
        return linked;
    }

    private boolean[][] partedTable(int sort, int known) {
        int[] stand = standing(known);
        boolean[][] parted = new boolean[40][40];
        for (Shr s : shares) {
            int a = stand[s.a];
            int b = stand[s.b];
            if (s.sort == sort && !s.is && s.counts(known) && a != b) parted[a][b] = parted[b][a] = true;
        }
        return parted;
    }

    int links(int sort, int known) {
        if (!isSort(sort) || !isDay(known)) return NONE;
        int n = 0;
        boolean[][] linked = linkTable(sort, known);
        for (int a = 0; a < 40; a++) for (int b = a + 1; b < 40; b++) if (linked[a][b]) n++;
        return n;
    }

    private static int[] classTable(boolean[][] linked) {
        int[] of = new int[40];
        for (int s = 0; s < 40; s++) of[s] = shortest(linked, s).keySet().stream().min(Integer::compare).get();
        return of;
    }

    /** To each SIGN that can be come to the first of the shortest ways. */
    private static Map<Integer, List<Integer>> shortest(boolean[][] linked, int from) {
        Map<Integer, List<Integer>> best = new TreeMap<>();
        ArrayDeque<List<Integer>> queue = new ArrayDeque<>();
        queue.add(List.of(from));
        while (!queue.isEmpty()) {
            List<Integer> path = queue.remove();
            int at = path.get(path.size() - 1);
            // Paths of one length leave the queue in the order of their SIGNS, so the first one is the due one.
            if (best.containsKey(at)) continue;
            best.put(at, path);
            for (int s = 0; s < 40; s++) {
                if (linked[at][s] && !best.containsKey(s)) {
                    List<Integer> longer = new ArrayList<>(path);
                    longer.add(s);
                    queue.add(longer);
                }
            }
        }
        return best;
    }

    int classOf(int sort, int s, int known) {
        if (!isSort(sort) || !isSign(s) || !isDay(known)) return NONE;
        return classTable(linkTable(sort, known))[standing(known)[s]];
    }

    /** a, b, kind, then the LINKS of the REASON as three numbers each; null without a CLASH. */
    private List<Integer> theClash(int known) {
        List<Integer> best = null;
        List<boolean[][]> linked = List.of(linkTable(0, known), linkTable(1, known));
        List<boolean[][]> parted = List.of(partedTable(0, known), partedTable(1, known));
        for (int a = 0; a < 40; a++) {
            List<Integer> c = null;
            Map<Integer, List<Integer>> byC = shortest(linked.get(0), a);
            Map<Integer, List<Integer>> byV = shortest(linked.get(1), a);
            for (int b = a + 1; b < 40; b++) {
                List<List<Integer>> options = new ArrayList<>();
                if (byC.containsKey(b) && byV.containsKey(b)) {
                    List<Integer> o = new ArrayList<>(List.of(a, b, 1));
                    addLinks(o, 0, byC.get(b));
                    addLinks(o, 1, byV.get(b));
                    options.add(o);
                }
                for (int sort = 0; sort < 2; sort++) {
                    Map<Integer, List<Integer>> by = sort == 0 ? byC : byV;
                    if (parted.get(sort)[a][b] && by.containsKey(b)) {
                        List<Integer> o = new ArrayList<>(List.of(a, b, 2));
                        addLinks(o, sort, by.get(b));
                        options.add(o);
                    }
                }
                for (List<Integer> o : options) if (best == null || o.size() < best.size()) best = o;
            }
        }
        return best;
    }

    private static void addLinks(List<Integer> into, int sort, List<Integer> path) {
        for (int i = 1; i < path.size(); i++) into.addAll(List.of(sort, path.get(i - 1), path.get(i)));
    }

    int clash(int known, int what) {
        List<Integer> c = isDay(known) ? theClash(known) : null;
        if (c == null || what < 0 || what > 3) return NONE;
        return what < 3 ? c.get(what) : (c.size() - 3) / 3;
    }

    int reason(int known, int i, int what) {
        List<Integer> c = isDay(known) ? theClash(known) : null;
        if (c == null || what < 0 || what > 2 || i < 0 || i >= (c.size() - 3) / 3) return NONE;
        return c.get(3 + 3 * i + what);
    }

    // ---- names

    private boolean tapeIsName() {
        return tape.matches("[a-z]{1,8}") && tape.length() <= 8;
    }

    int name(int tablet) {
        if (tablet < 0 || tablet >= tabs.size() || !tapeIsName() || names.size() == 6) return NONE;
        Nam n = new Nam();
        n.text = tape;
        n.tablet = tablet;
        n.came = today;
        names.add(n);
        tape = "";
        return names.size() - 1;
    }

    private List<Integer> cellsOf(String text, int known) {
        char[] w = text.toCharArray();
        Set<Character> dropped = new HashSet<>();
        Map<Character, Character> write = new HashMap<>();
        for (List<String> c : rulesOn(known).clauses) {
            if (c.get(0).equals("drop")) dropped.add(c.get(1).charAt(0));
            if (c.get(0).equals("write")) write.put(c.get(1).charAt(0), c.get(3).charAt(0));
        }
        for (int i = 0; i < w.length; i++) w[i] = write.getOrDefault(w[i], w[i]);
        List<Integer> cells = new ArrayList<>();
        int latest = NONE;
        for (int i = 0; i < w.length; i++) {
            boolean vowelBehind = i + 1 < w.length && vowel(w[i + 1]) >= 0;
            if (vowel(w[i]) >= 0) {
                latest = vowel(w[i]);
                if (i == 0 || vowel(w[i - 1]) >= 0) cells.add(latest);
                continue;
            }
            if (!vowelBehind && dropped.contains(w[i])) continue;
            int v = NONE;
            for (int j = w.length - 1; j > i; j--) if (vowel(w[j]) >= 0) v = vowel(w[j]);
            if (v == NONE) v = latest;
            if (v != NONE) cells.add(5 * (w[i] - 'a' + 1) + v);
        }
        return cells;
    }

    int spelled(int name, int known) {
        if (name < 0 || name >= names.size() || !isDay(known)) return NONE;
        return cellsOf(names.get(name).text, known).size();
    }

    int cell(int name, int i, int known) {
        if (name < 0 || name >= names.size() || !isDay(known)) return NONE;
        List<Integer> cells = cellsOf(names.get(name).text, known);
        return i < 0 || i >= cells.size() ? NONE : cells.get(i);
    }

    // ---- ways

    private record Seat(int name, int tablet, List<Integer> cells) {}

    /** A WAY: the ROW of each seat, and which SIGN has which CELL. */
    private record Way(int[] rows, Map<Integer, Integer> cells) {}

    private final class World {
        final int known;
        final int[] stand;
        final int[][] classes;
        final List<boolean[][]> parted;

        World(int known) {
            this.known = known;
            stand = standing(known);
            classes = new int[][] {classTable(linkTable(0, known)), classTable(linkTable(1, known))};
            parted = List.of(partedTable(0, known), partedTable(1, known));
        }

        List<Seat> seats(int leftOut) {
            List<Seat> all = new ArrayList<>();
            for (int i = 0; i < names.size(); i++) {
                Nam n = names.get(i);
                if ((leftOut >> i & 1) == 0 && n.counts(known) && tabs.get(n.tablet).counts(known)) {
                    all.add(new Seat(i, n.tablet, cellsOf(n.text, known)));
                }
            }
            return all;
        }

        /** The CELLS of the SIGNS, if all agree; else null. */
        Map<Integer, Integer> agreed(List<Seat> seats, int[] rows) {
            Map<Integer, Integer> cells = new TreeMap<>();
            for (int k = 0; k < rows.length; k++) {
                List<Integer> row = tabs.get(seats.get(k).tablet).rows.get(rows[k]);
                for (int i = 0; i < row.size(); i++) {
                    if (row.get(i) == NONE) continue;
                    Integer before = cells.put(stand[row.get(i)], seats.get(k).cells.get(i));
                    if (before != null && !before.equals(seats.get(k).cells.get(i))) return null;
                }
            }
            for (int s : cells.keySet()) {
                for (int t : cells.keySet()) {
                    if (s >= t) continue;
                    int x = cells.get(s);
                    int y = cells.get(t);
                    if (x == y) return null;
                    if (classes[0][s] == classes[0][t] && x / 5 != y / 5) return null;
                    if (classes[1][s] == classes[1][t] && x % 5 != y % 5) return null;
                    if (parted.get(0)[s][t] && x / 5 == y / 5) return null;
                    if (parted.get(1)[s][t] && x % 5 == y % 5) return null;
                }
            }
            return cells;
        }

        List<Way> ways(List<Seat> seats) {
            List<Way> all = new ArrayList<>();
            collect(seats, new int[0], all);
            return all;
        }

        private void collect(List<Seat> seats, int[] rows, List<Way> all) {
            int k = rows.length;
            if (k == seats.size()) {
                Map<Integer, Integer> cells = agreed(seats, rows);
                if (cells != null) all.add(new Way(rows, cells));
                return;
            }
            List<List<Integer>> of = tabs.get(seats.get(k).tablet).rows;
            for (int r = 0; r < of.size(); r++) {
                boolean taken = false;
                for (int j = 0; j < k; j++) taken |= rows[j] == r && seats.get(j).tablet == seats.get(k).tablet;
                if (taken || of.get(r).size() != seats.get(k).cells.size()) continue;
                int[] longer = Arrays.copyOf(rows, k + 1);
                longer[k] = r;
                collect(seats, longer, all);
            }
        }

        List<Way> ways() {
            return ways(seats(0));
        }
    }

    int ways(int known) {
        return isDay(known) ? new World(known).ways().size() : NONE;
    }

    int way(int known, int k, int name) {
        if (!isDay(known)) return NONE;
        World w = new World(known);
        List<Way> all = w.ways();
        if (k < 0 || k >= all.size()) return NONE;
        List<Seat> seats = w.seats(0);
        for (int i = 0; i < seats.size(); i++) if (seats.get(i).name == name) return all.get(k).rows[i];
        return NONE;
    }

    int given(int known, int k, int s) {
        if (!isDay(known) || !isSign(s)) return NONE;
        World w = new World(known);
        List<Way> all = w.ways();
        return k < 0 || k >= all.size() ? NONE : all.get(k).cells.getOrDefault(w.stand[s], NONE);
    }

    private static int forcedIn(List<Way> all, int s) {
        if (all.isEmpty()) return NONE;
        int cell = all.get(0).cells.getOrDefault(s, NONE);
        for (Way w : all) if (w.cells.getOrDefault(s, NONE) != cell) return NONE;
        return cell;
    }

    int forced(int known, int s) {
        if (!isDay(known) || !isSign(s)) return NONE;
        World w = new World(known);
        return forcedIn(w.ways(), w.stand[s]);
    }

    int reads(int known, int tablet, int w) {
        if (!isDay(known) || tablet < 0 || tablet >= tabs.size()) return NONE;
        if (w < 0 || w >= tabs.get(tablet).rows.size()) return NONE;
        World world = new World(known);
        List<Way> all = world.ways();
        out = "";
        for (int s : tabs.get(tablet).rows.get(w)) {
            int cell = s == NONE ? NONE : forcedIn(all, world.stand[s]);
            if (cell == NONE) out += "?";
            else out += (cell < 5 ? "" : "" + "abcdefghijklmnopqrstuvwxyz".charAt(cell / 5 - 1)) + "aeiou".charAt(cell % 5);
        }
        return out.length();
    }

    int letter(int i) {
        return i < 0 || i >= out.length() ? NONE : out.charAt(i);
    }

    int settles(int known, int what) {
        if (!isDay(known) || what < 0 || what > 1) return NONE;
        List<Way> all = new World(known).ways();
        if (all.isEmpty()) return NONE;
        int best = NONE;
        int fewest = Integer.MAX_VALUE;
        for (int s = 0; s < 40; s++) {
            Map<Integer, Integer> times = new HashMap<>();
            int most = 0;
            for (Way w : all) most = Math.max(most, times.merge(w.cells.getOrDefault(s, NONE), 1, Integer::sum));
            if (most < fewest) {
                fewest = most;
                best = s;
            }
        }
        return what == 0 ? best : fewest;
    }

    private int leftBy(World w, int tablet, String text) {
        List<Seat> seats = new ArrayList<>(w.seats(0));
        seats.add(new Seat(NONE, tablet, cellsOf(text, w.known)));
        return w.ways(seats).size();
    }

    int would(int known, int tablet) {
        if (!isDay(known) || !tapeIsName() || tablet < 0 || tablet >= tabs.size()) return NONE;
        if (!tabs.get(tablet).counts(known)) return NONE;
        String text = tape;
        tape = "";
        return leftBy(new World(known), tablet, text);
    }

    int fits(int known) {
        if (!isDay(known) || !tapeIsName()) return NONE;
        World w = new World(known);
        List<Seat> seats = new ArrayList<>(w.seats(0));
        List<Way> all = w.ways();
        List<Integer> cells = cellsOf(tape, known);
        tape = "";
        int n = 0;
        for (int t = 0; t < tabs.size(); t++) {
            if (!tabs.get(t).counts(known)) continue;
            for (int r = 0; r < tabs.get(t).rows.size(); r++) {
                if (tabs.get(t).rows.get(r).size() == cells.size() && fitsBeside(w, seats, all, new Seat(NONE, t, cells), r)) n++;
            }
        }
        return n;
    }

    private boolean fitsBeside(World w, List<Seat> seats, List<Way> all, Seat added, int row) {
        List<Seat> more = new ArrayList<>(seats);
        more.add(added);
        for (Way way : all) {
            boolean own = false;
            for (int i = 0; i < seats.size(); i++) own |= seats.get(i).tablet == added.tablet && way.rows[i] == row;
            int[] rows = Arrays.copyOf(way.rows, way.rows.length + 1);
            rows[way.rows.length] = row;
            if (!own && w.agreed(more, rows) != null) return true;
        }
        return false;
    }

    int doubt(int known, int what) {
        if (!isDay(known) || what < 0 || what > 1) return NONE;
        World w = new World(known);
        int best = NONE;
        for (int set = 0; set < 64; set++) {
            boolean fair = w.seats(~set).size() == Integer.bitCount(set);
            if (!fair || best != NONE && Integer.bitCount(set) >= Integer.bitCount(best)) continue;
            if (!w.ways(w.seats(set)).isEmpty()) best = set;
        }
        return what == 0 ? Integer.bitCount(best) : best;
    }

    int could(int known, int s, int i, int what) {
        if (!isDay(known) || !isSign(s) || what < 0 || what > 1) return NONE;
        World w = new World(known);
        TreeMap<Integer, Integer> times = new TreeMap<>();
        for (Way way : w.ways()) {
            Integer cell = way.cells.get(w.stand[s]);
            if (cell != null) times.merge(cell, 1, Integer::sum);
        }
        if (i < 0 || i >= times.size()) return NONE;
        int cell = new ArrayList<>(times.keySet()).get(i);
        return what == 0 ? cell : times.get(cell);
    }

    int inGrid(int known, int cell) {
        if (!isDay(known) || cell < 0) return NONE;
        List<Way> all = new World(known).ways();
        for (int s = 0; s < 40; s++) if (forcedIn(all, s) == cell) return s;
        return NONE;
    }

    int where(int known) {
        if (!isDay(known) || !tapeIsName()) return NONE;
        World w = new World(known);
        int best = NONE;
        int fewest = Integer.MAX_VALUE;
        for (int t = 0; t < tabs.size(); t++) {
            if (!tabs.get(t).counts(known)) continue;
            int left = leftBy(w, t, tape);
            if (left >= 1 && left < fewest) {
                best = t;
                fewest = left;
            }
        }
        tape = "";
        return best;
    }

    // ---- counts

    int often(int s, int known, int what) {
        if (!isDay(known) || !isSign(s) || what < 0 || what > 4) return NONE;
        int[] stand = standing(known);
        int[] n = new int[5];
        for (Tab t : tabs) {
            if (!t.counts(known)) continue;
            for (List<Integer> row : t.rows) {
                for (int i = 0; i < row.size(); i++) {
                    if (row.get(i) == NONE || stand[row.get(i)] != stand[s]) continue;
                    boolean first = i == 0;
                    boolean last = i == row.size() - 1;
                    n[first && last ? 2 : first ? 0 : last ? 1 : 3]++;
                    n[4]++;
                }
            }
        }
        return n[what];
    }

    int rank(int known, int i) {
        if (!isDay(known)) return NONE;
        int[] stand = standing(known);
        List<Integer> there = new ArrayList<>();
        for (int s = 0; s < 40; s++) if (stand[s] == s && often(s, known, 4) > 0) there.add(s);
        there.sort((x, y) -> {
            long left = (long) often(x, known, 0) * often(y, known, 4);
            long right = (long) often(y, known, 0) * often(x, known, 4);
            return left != right ? Long.compare(right, left) : Integer.compare(x, y);
        });
        return i < 0 || i >= there.size() ? NONE : there.get(i);
    }

    int count(int what) {
        switch (what) {
            case 0: return today;
            case 1: return tabs.size();
            case 2: return rulesTold.size();
            case 3: return shares.size();
            case 4: return names.size();
            case 5: return held.size();
            case 6: return tape.length();
            case 7: return out.length();
            case 8: return (int) tabs.stream().filter(t -> t.counts(today)).count();
            case 9: return (int) names.stream().filter(t -> t.counts(today)).count();
            default: return NONE;
        }
    }
}
