import java.util.NoSuchElementException;

/** What the tests share: a text for the TAPE, and counting of wrong answers. */
final class Checks {
    private int wrong;
    private int made;

    void due(String what, long got, long want) {
        made++;
        if (got != want) {
            wrong++;
            System.out.println(what + " answered " + got + ", due is " + want);
        }
    }

    void due(String what, boolean got, boolean want) {
        due(what, got ? 1 : 0, want ? 1 : 0);
    }

    /** Ends the test. */
    void close() {
        System.out.println(made + " answers, " + wrong + " of them wrong");
        if (wrong != 0 || made == 0) {
            System.exit(1);
        }
    }

    /** The TAPE has this text alone. */
    static void tape(GridRoom room, String text) {
        room.end(0);
        more(room, text);
    }

    /** This text comes behind the TAPE. */
    static void more(GridRoom room, String text) {
        int had = room.count(6);
        for (int at = 0; at < text.length(); at += 20) {
            int[] n = new int[5];
            for (int i = 0; i < 20; i++) {
                n[i / 4] = n[i / 4] << 8 | (at + i < text.length() ? text.charAt(at + i) & 255 : ' ');
            }
            if (room.feed(n[0], n[1], n[2], n[3], n[4]) < 0) {
                throw new IllegalStateException("the text is too long");
            }
        }
        if (room.end(had + text.length()) != had + text.length()) {
            throw new IllegalStateException("the tape has another length");
        }
    }

    static int tablet(GridRoom room, String text) {
        tape(room, text);
        return room.tablet();
    }

    static int rules(GridRoom room, String text) {
        tape(room, text);
        return room.rules();
    }

    static int name(GridRoom room, String text, int tablet) {
        tape(room, text);
        return room.name(tablet);
    }

    /** 1000 and more: the place can't be told, as there is none. */
    static int told(GridRoom room, int tablet, int w, int i) {
        try {
            return room.told(tablet, w, i);
        } catch (NoSuchElementException e) {
            return 1000;
        }
    }

    static String out(GridRoom room) {
        StringBuilder text = new StringBuilder();
        for (int i = 0; i < room.count(7); i++) {
            text.append((char) room.letter(i));
        }
        return text.toString();
    }

    static String repeat(String text, int times) {
        return text.repeat(times);
    }
}
