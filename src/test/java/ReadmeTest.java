import java.lang.reflect.Method;
import java.lang.reflect.Modifier;
import java.nio.file.Files;
import java.nio.file.Path;
import java.util.regex.Matcher;
import java.util.regex.Pattern;

/** Makes the calls that README.md shows, in their order, on one room: each answers what stands behind it. */
public final class ReadmeTest {
    private static final Pattern TAPE = Pattern.compile("tape\\(room, \"([^\"]*)\"\\);");
    private static final Pattern CALL = Pattern.compile("room\\.(\\w+)\\(([^)]*)\\);\\s*// (-?\\d+)\\b.*");
    private static final int LEAST_CALLS = 20;
    private static final Pattern METHOD = Pattern.compile("`(\\w+)`");

    private final Checks c = new Checks();
    private GridRoom room;
    private int calls;

    public static void main(String[] args) throws Exception {
        String text = Files.readString(Path.of("README.md"));
        ReadmeTest test = new ReadmeTest();
        for (String line : text.split("\n")) {
            test.run(line);
        }
        test.c.due("README.md shows calls", test.calls >= LEAST_CALLS, true);
        for (Method m : GridRoom.class.getDeclaredMethods()) {
            if (Modifier.isPublic(m.getModifiers())) {
                test.c.due("README.md names " + m.getName(), names(text, m.getName()), true);
            }
        }
        test.c.close();
    }

    private static boolean names(String text, String method) {
        Matcher m = METHOD.matcher(text);
        while (m.find()) {
            if (m.group(1).equals(method)) {
                return true;
            }
        }
        return false;
    }

    private void run(String line) throws Exception {
        if (line.equals("GridRoom room = new GridRoom();")) {
            room = new GridRoom();
            return;
        }
        Matcher tape = TAPE.matcher(line);
        Matcher call = CALL.matcher(line);
        if (tape.matches()) {
            Checks.tape(room, tape.group(1));
        } else if (call.matches()) {
            calls++;
            c.due(line, answer(call.group(1), call.group(2)), Long.parseLong(call.group(3)));
        } else if (line.startsWith("room.") || line.startsWith("tape(")) {
            c.due("is not understood: " + line, false, true);
        }
    }

    private long answer(String method, String with) throws Exception {
        String[] parts = with.isEmpty() ? new String[0] : with.split(", ");
        Class<?>[] types = new Class<?>[parts.length];
        Object[] numbers = new Object[parts.length];
        for (int i = 0; i < parts.length; i++) {
            types[i] = int.class;
            numbers[i] = Integer.decode(parts[i]);
        }
        Object got = GridRoom.class.getMethod(method, types).invoke(room, numbers);
        return got instanceof Boolean yes ? (yes ? 1 : 0) : (Integer) got;
    }
}
