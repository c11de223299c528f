/** Promises 19 (name), 20 (spelled), 21 (cell). */
public final class NamesTest {
    public static void main(String[] args) {
        Checks c = new Checks();
        telling(c);
        spelling(c);
        spellingByRules(c);
        spellingByDay(c);
        c.close();
    }

    private static void telling(Checks c) {
        GridRoom room = new GridRoom();
        c.due("no TABLET yet", Checks.name(room, "ka", 0), -1);
        c.due("the TAPE stays", room.count(6), 2);
        Checks.tablet(room, "1.");
        String[] none = {"", "k a", "ka ", " ka", "Ka", "k1", "kakakakak", "ka.", "ka\n", "abcdefghi"};
        for (String text : none) {
            c.due("no NAME: " + text, Checks.name(room, text, 0), -1);
            c.due("the TAPE stays: " + text, room.count(6), text.length());
        }
        c.due("none was told", room.count(4), 0);
        Checks.tape(room, "ka");
        int[] tablets = {1, -1, 24, Integer.MAX_VALUE, Integer.MIN_VALUE};
        for (int tablet : tablets) {
            c.due("no TABLET " + tablet, room.name(tablet), -1);
        }
        c.due("the TAPE stays", room.count(6), 2);
        c.due("a NAME", room.name(0), 0);
        c.due("the TAPE is empty", room.count(6), 0);
        room.away(0, 0);
        c.due("of a TABLET that is put away", Checks.name(room, "z", 0), 1);
        c.due("eight letters", Checks.name(room, "abcdefgh", 0), 2);
        c.due("the same", Checks.name(room, "ka", 0), 3);
        Checks.name(room, "az", 0);
        c.due("the sixth", Checks.name(room, "uu", 0), 5);
        Checks.tape(room, "ka");
        c.due("the seventh", room.name(0), -1);
        c.due("the TAPE stays", room.count(6), 2);
        room.away(2, 0);
        c.due("six were told still", room.name(0), -1);
        c.due("six", room.count(4), 6);
    }

    private static int cellOf(String text) {
        int vowel = "aeiou".indexOf(text.charAt(text.length() - 1));
        return text.length() == 1 ? vowel : 5 * (text.charAt(0) - 'a' + 1) + vowel;
    }

    /** The CELLS are told as letters, a blank between. */
    private static void spelled(Checks c, String rules, String name, String cells) {
        GridRoom room = new GridRoom();
        Checks.tablet(room, "1.");
        if (Checks.rules(room, rules) < 0 || Checks.name(room, name, 0) != 0) {
            throw new IllegalStateException(rules + name);
        }
        String[] due = cells.isEmpty() ? new String[0] : cells.split(" ");
        c.due(name + " by " + rules, room.spelled(0, 0), due.length);
        for (int i = 0; i < due.length; i++) {
            c.due(name + " by " + rules + " " + i, room.cell(0, i, 0), cellOf(due[i]));
        }
        c.due(name + ": none behind", room.cell(0, due.length, 0), -1);
    }

    private static void spelling(Checks c) {
        spelled(c, "", "ka", "ka");
        spelled(c, "", "kaka", "ka ka");
        spelled(c, "", "a", "a");
        spelled(c, "", "aeiou", "a e i o u");
        spelled(c, "", "kai", "ka i");
        spelled(c, "", "ak", "a ka");
        spelled(c, "", "aku", "a ku");
        spelled(c, "", "knoso", "ko no so");
        spelled(c, "", "knosos", "ko no so so");
        spelled(c, "", "tripod", "ti ri po do");
        spelled(c, "", "k", "");
        spelled(c, "", "ktrsbcdf", "");
        spelled(c, "", "ktua", "ku tu a");
        spelled(c, "", "akte", "a ke te");
        spelled(c, "", "aktx", "a ka ta xa");
        spelled(c, "", "abebub", "a be bu bu");
        spelled(c, "", "zuy", "zu yu");
        spelled(c, "", "bzaeb", "ba za e be");
        spelled(c, "", "abcdefgh", "a be ce de fe ge he");
        GridRoom room = new GridRoom();
        Checks.tablet(room, "1.");
        Checks.name(room, "zu", 0);
        c.due("the greatest CELL", room.cell(0, 0, 0), 134);
        c.due("cell -1", room.cell(0, -1, 0), -1);
        c.due("cell max", room.cell(0, Integer.MAX_VALUE, 0), -1);
        c.due("name 1", room.cell(1, 0, 0), -1);
        c.due("name -1", room.cell(-1, 0, 0), -1);
        c.due("day 1", room.cell(0, 0, 1), -1);
        c.due("name 1", room.spelled(1, 0), -1);
        c.due("name -1", room.spelled(-1, 0), -1);
        c.due("day 1", room.spelled(0, 1), -1);
        c.due("day -1", room.spelled(0, -1), -1);
    }

    private static void spellingByRules(Checks c) {
        spelled(c, "write l as r;", "lala", "ra ra");
        spelled(c, "write l as r; write l as n;", "lala", "na na");
        spelled(c, "write l as r; write r as n;", "lara", "ra na");
        spelled(c, "write o as u; write u as o;", "kouko", "ku o ku");
        spelled(c, "write e as a;", "kte", "ka ta");
        spelled(c, "drop s;", "knosos", "ko no so");
        spelled(c, "drop s;", "sasta", "sa ta");
        spelled(c, "drop s; drop n;", "nans", "na");
        spelled(c, "drop r; write l as r;", "lal", "ra");
        spelled(c, "drop l; write l as r;", "lal", "ra ra");
        spelled(c, "drop k;", "k", "");
        spelled(c, "drop k;", "ak", "a");
        spelled(c, "drop k;", "kka", "ka");
        spelled(c, "drop k; write a as a;", "aka", "a ka");
        spelled(c, "drop t;".repeat(12), "satks", "sa ka sa");
        spelled(c, "consonant first; drop t; vowel last;", "tat", "ta");
    }

    private static void spellingByDay(Checks c) {
        GridRoom room = new GridRoom();
        Checks.tablet(room, "1.");
        Checks.rules(room, "drop k;");
        room.day(2);
        Checks.rules(room, "write k as t;");
        Checks.name(room, "ak", 0);
        room.day(2);
        Checks.rules(room, "");
        room.away(2, 0);
        c.due("dropped", room.spelled(0, 0), 1);
        c.due("dropped", room.spelled(0, 1), 1);
        c.due("written", room.spelled(0, 2), 2);
        c.due("written", room.cell(0, 1, 3), cellOf("ta"));
        c.due("by an empty text, though put away", room.cell(0, 1, 4), cellOf("ka"));
    }
}
