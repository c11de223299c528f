import java.lang.reflect.InvocationTargetException;
import java.lang.reflect.Method;
import java.lang.reflect.Modifier;
import java.util.ArrayList;
import java.util.Arrays;
import java.util.Comparator;
import java.util.List;
import java.util.function.Consumer;
import java.util.function.ToIntBiFunction;
import java.util.function.ToIntFunction;

/**
 * What the tests of the document's sentences share. Each method without parameters of a class below this one is a test;
 * its remark says which sentence it holds, and SentencesTest looks for that sentence in the document.
 */
abstract class Edges {
    static final int NONE = -1;
    /** What a call of told is counted as that throws. */
    static final int THROWN = 1000;
    static final int MIN = Integer.MIN_VALUE;
    static final int MAX = Integer.MAX_VALUE;
    static final int CONSONANT = 0;
    static final int VOWEL = 1;
    /** The answers to texts with a FAULT of kind 1, 2, 3. */
    static final int WRONG = -2;
    static final int CANNOT_BE = -3;
    static final int TOO_MANY = -4;

    /** There are no such ones in the room with some of everything, of its four DAYS, of SIGNS, SORTS, TABLETS, NAMES. */
    static final int[] NO_DAYS = {-1, 4, MIN, MAX};
    static final int[] NO_SIGNS = {-1, 40, MIN, MAX};
    static final int[] NO_SORTS = {-1, 2, MIN, MAX};
    static final int[] NO_TABLETS = {-1, 3, 24, MIN, MAX};
    static final int[] NO_NAMES = {-1, 2, 6, MIN, MAX};

    private final Checks checks = new Checks();
    private String test = "";

    final void runAll() throws IllegalAccessException {
        Method[] all = getClass().getDeclaredMethods();
        Arrays.sort(all, Comparator.comparing(Method::getName));
        for (Method m : all) {
            boolean isTest = m.getParameterCount() == 0 && m.getReturnType() == void.class
                    && !Modifier.isStatic(m.getModifiers()) && !m.isSynthetic();
            if (isTest) {
                test = m.getName();
                run(m);
            }
        }
        checks.close();
    }

    private void run(Method m) throws IllegalAccessException {
        try {
            m.setAccessible(true);
            m.invoke(this);
        } catch (InvocationTargetException e) {
            e.getCause().printStackTrace(System.out);
            checks.due(test + " threw", 1, 0);
        }
    }

    final void due(String what, long got, long want) {
        checks.due(test + ": " + what, got, want);
    }

    final void due(String what, boolean got, boolean want) {
        checks.due(test + ": " + what, got, want);
    }

    final void due(String what, String got, String want) {
        checks.due(test + ": " + what + " is " + got + ", not " + want, got.equals(want), true);
    }

    // ---- telling

    static void tape(GridRoom room, String text) {
        Checks.tape(room, text);
    }

    static int tablet(GridRoom room, String text) {
        return Checks.tablet(room, text);
    }

    static int rules(GridRoom room, String text) {
        return Checks.rules(room, text);
    }

    static int name(GridRoom room, String text, int tablet) {
        return Checks.name(room, text, tablet);
    }

    static int told(GridRoom room, int tablet, int w, int i) {
        return Checks.told(room, tablet, w, i);
    }

    static String out(GridRoom room) {
        return Checks.out(room);
    }

    /** A room with these TABLETS. */
    static GridRoom room(String... tablets) {
        GridRoom room = new GridRoom();
        for (String text : tablets) {
            must(tablet(room, text) >= 0, text);
        }
        return room;
    }

    /** NAMES, each told as its letters, a blank, and the TABLET's number. */
    static GridRoom named(GridRoom room, String... names) {
        for (String one : names) {
            String[] parts = one.split(" ");
            must(name(room, parts[0], Integer.parseInt(parts[1])) >= 0, one);
        }
        return room;
    }

    static GridRoom ruled(GridRoom room, String text) {
        must(rules(room, text) >= 0, text);
        return room;
    }

    /** A test that isn't what it is meant to be is no test. */
    static void must(boolean holds, String what) {
        if (!holds) {
            throw new IllegalStateException(what);
        }
    }

    static void days(GridRoom room, int n) {
        for (int left = n; left > 0; left -= 1000) {
            must(room.day(Math.min(left, 1000)) >= 0, "days");
        }
    }

    static int cellOf(String text) {
        int vowel = "aeiou".indexOf(text.charAt(text.length() - 1));
        return text.length() == 1 ? vowel : 5 * (text.charAt(0) - 'a' + 1) + vowel;
    }

    /** The CELLS of a NAME as known, as letters with a blank between. */
    static String spelled(GridRoom room, int name, int known) {
        StringBuilder text = new StringBuilder();
        for (int i = 0; i < room.spelled(name, known); i++) {
            int cell = room.cell(name, i, known);
            text.append(i == 0 ? "" : " ").append(cell < 5 ? "" : "" + (char) ('a' + cell / 5 - 1));
            text.append("aeiou".charAt(cell % 5));
        }
        return text.toString();
    }

    // ---- texts

    final void goodTablet(String text) {
        GridRoom room = new GridRoom();
        due("tablet " + text, tablet(room, text), 0);
        due("place in " + text, room.place(), NONE);
    }

    final void badTablet(String text, int answer, int place) {
        GridRoom room = new GridRoom();
        due("tablet " + text, tablet(room, text), answer);
        due("place in " + text, room.place(), place);
    }

    final void goodRules(String text, int clauses) {
        GridRoom room = new GridRoom();
        due("rules " + text, rules(room, text), clauses);
        due("place in " + text, room.place(), NONE);
    }

    final void badRules(String text, int answer, int place) {
        GridRoom room = new GridRoom();
        due("rules " + text, rules(room, text), answer);
        due("place in " + text, room.place(), place);
    }

    // ---- calls that are refused

    /** A room in which there is some of everything, on DAY 3, with a NAME on the TAPE and a WORD that is OUT. */
    static GridRoom someRoom() {
        GridRoom room = room("1 2 3. 1 2 4. 5 2 3. 3 4.", "6. 7. 1.");
        ruled(room, "consonant last; vowel first count 1; write l as r; drop s;");
        room.share(CONSONANT, 8, 9, true);
        room.holds(1, 30, 31, 1);
        room.day(2);
        named(room, "kakuti 0", "la 1");
        room.share(VOWEL, 6, 7, false);
        room.day(1);
        tablet(room, "2 2. 8.");
        room.away(1, 0);
        room.reads(3, 0, 0);
        tape(room, "kaku");
        return room;
    }

    /** A call that is refused, made of a room with some of everything. */
    final void refused(String what, ToIntFunction<GridRoom> call, int answer) {
        refused(what, room -> { }, call, answer);
    }

    /**
     * Of two rooms like one another the call is made of one alone: it is refused, and both answer all that is asked
     * later alike, as if it had not been made.
     */
    final void refused(String what, Consumer<GridRoom> more, ToIntFunction<GridRoom> call, int answer) {
        GridRoom plain = someRoom();
        GridRoom tried = someRoom();
        more.accept(plain);
        more.accept(tried);
        due(what, call.applyAsInt(tried), answer);
        alike(what, plain, tried);
    }

    /** A call that is refused with each of these numbers. */
    final void refusedFor(String what, int[] numbers, ToIntBiFunction<GridRoom, Integer> call, int answer) {
        for (int n : numbers) {
            refused(what + " " + n, room -> call.applyAsInt(room, n), answer);
        }
    }

    /** A question that is refused for each DAY that there isn't, and answered for the first and the last that there is. */
    final void refusedForDays(String what, ToIntBiFunction<GridRoom, Integer> call) {
        refusedFor(what + " on DAY", NO_DAYS, call, NONE);
        due(what + " on DAY 3", call.applyAsInt(someRoom(), 3) != NONE, true);
    }

    final void alike(String what, GridRoom plain, GridRoom tried) {
        List<Integer> want = new ArrayList<>();
        List<Integer> got = new ArrayList<>();
        askAll(plain, want);
        askAll(tried, got);
        goOn(plain, want);
        goOn(tried, got);
        due(what + ": as many answers later", got.size(), want.size());
        for (int i = 0; i < Math.min(got.size(), want.size()); i++) {
            due(what + ": later answer " + i, got.get(i), want.get(i));
        }
    }

    /** Some hundred and fifty questions, none of which changes anything. */
    static void askAll(GridRoom room, List<Integer> into) {
        for (int what = 0; what < 10; what++) {
            into.add(room.count(what));
        }
        into.add(room.place());
        for (int i = 0; i < 13; i++) {
            into.add(room.letter(i));
        }
        int today = room.count(0);
        for (int t = 0; t < 4; t++) {
            into.add(told(room, t, 1, 0));
        }
        for (int s : new int[] {0, 3, 31, 39}) {
            into.add(room.sign(s, today));
            into.add(room.often(s, today, 4));
        }
        into.add(room.pairs(0, 3, 4, today));
        for (int what = 0; what < 4; what++) {
            into.add(room.clash(today, what));
            into.add(room.rank(today, what));
        }
        askByDay(room, 0, into);
        askByDay(room, today, into);
    }

    private static void askByDay(GridRoom room, int known, List<Integer> into) {
        for (int sort = 0; sort < 2; sort++) {
            into.add(room.links(sort, known));
            into.add(room.classOf(sort, 9, known));
            into.add(room.doubt(known, sort));
            into.add(room.settles(known, sort));
        }
        into.add(room.ways(known));
        for (int name = 0; name < 6; name++) {
            into.add(room.spelled(name, known));
            into.add(room.cell(name, 0, known));
            into.add(room.way(known, 0, name));
        }
        for (int s = 1; s < 9; s++) {
            into.add(room.forced(known, s));
            into.add(room.given(known, 0, s));
            into.add(room.could(known, s, 0, 1));
        }
    }

    /** Tells more, with what is on the TAPE first, and asks again. */
    private static void goOn(GridRoom room, List<Integer> into) {
        int today = room.count(0);
        into.add(room.name(0));
        into.add(room.tablet());
        into.add(room.place());
        for (int i = 0; i < 4; i++) {
            into.add(told(room, room.count(1) - 1, 0, i));
            into.add(room.cell(room.count(4) - 1, i, today));
        }
        room.end(0);
        into.add(room.feed(0x35203620, 0x372E2020, 0x20202020, 0x20202020, 0x20202020));
        into.add(room.tablet());
        into.add(room.share(CONSONANT, 5, 6, true));
        into.add(room.holds(2, 7, 8, 1) ? 1 : 0);
        into.add(room.trust(2, 50) ? 1 : 0);
        into.add(room.away(0, 1) ? 1 : 0);
        into.add(room.day(1));
        into.add(room.reads(today, 0, 1));
        for (int i = 0; i < 7; i++) {
            into.add(room.letter(i));
        }
        for (int what = 0; what < 10; what++) {
            into.add(room.count(what));
        }
        into.add(room.ways(room.count(0)));
        into.add(room.classOf(CONSONANT, 6, room.count(0)));
    }
}
