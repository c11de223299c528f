import java.lang.reflect.Constructor;
import java.lang.reflect.Field;
import java.lang.reflect.Method;
import java.lang.reflect.Modifier;
import java.util.ArrayList;
import java.util.Arrays;
import java.util.List;
import java.util.Set;
import java.util.TreeSet;

/** The document's public face, and the rules of LANGUAGE.md that a compiled class shows. */
public final class FaceTest {
    private static final String[] FACE = {
        "int day(int)", "int feed(int,int,int,int,int)", "int end(int)", "int tablet()", "int rules()", "int place()",
        "boolean away(int,int)", "boolean trust(int,int)", "boolean holds(int,int,int,int)", "int sign(int,int)",
        "int told(int,int,int)", "int share(int,int,int,boolean)", "int pairs(int,int,int,int)", "int links(int,int)",
        "int classOf(int,int,int)", "int clash(int,int)", "int reason(int,int,int)", "int name(int)",
        "int spelled(int,int)", "int cell(int,int,int)", "int ways(int)", "int way(int,int,int)",
        "int given(int,int,int)", "int forced(int,int)", "int reads(int,int,int)", "int letter(int)",
        "int settles(int,int)", "int would(int,int)", "int fits(int)", "int doubt(int,int)",
        "int could(int,int,int,int)", "int inGrid(int,int)", "int where(int)", "int often(int,int,int)",
        "int rank(int,int)", "int count(int)"};

    public static void main(String[] args) throws Exception {
        Checks c = new Checks();
        Set<String> due = new TreeSet<>(Arrays.asList(FACE));
        Set<String> names = new TreeSet<>();
        Set<String> found = new TreeSet<>();
        for (Method m : GridRoom.class.getDeclaredMethods()) {
            if (Modifier.isPublic(m.getModifiers())) {
                names.add(m.getName());
                found.add(shape(m));
                c.due(m + " is no static one", Modifier.isStatic(m.getModifiers()), false);
            } else {
                c.due(m + " is private", Modifier.isPrivate(m.getModifiers()), true);
            }
        }
        c.due("the methods are those of the document: " + found, found.equals(due), true);
        c.due("36 methods", found.size(), 36);
        c.due("told says what it throws", GridRoom.class.getMethod("told", int.class, int.class, int.class)
                .getExceptionTypes().length, 1);
        fields(c);
        c.due("one constructor", GridRoom.class.getDeclaredConstructors().length, 1);
        Constructor<?> made = GridRoom.class.getConstructor();
        c.due("it throws nothing", made.getExceptionTypes().length, 0);
        c.due("public and final", Modifier.isFinal(GridRoom.class.getModifiers())
                && Modifier.isPublic(GridRoom.class.getModifiers()), true);
        inside(c, names);
        c.close();
    }

    private static String shape(Method m) {
        List<String> parts = new ArrayList<>();
        for (Class<?> p : m.getParameterTypes()) {
            parts.add(p.getName());
        }
        return m.getReturnType().getName() + " " + m.getName() + "(" + String.join(",", parts) + ")";
    }

    private static void fields(Checks c) throws Exception {
        for (Field f : GridRoom.class.getDeclaredFields()) {
            boolean isNone = f.getName().equals("NONE");
            c.due(f + " is private, but for NONE", Modifier.isPrivate(f.getModifiers()), !isNone);
        }
        Field none = GridRoom.class.getField("NONE");
        c.due("NONE is a constant", Modifier.isFinal(none.getModifiers()) && Modifier.isStatic(none.getModifiers())
                && none.getType() == int.class, true);
    }

    private static void inside(Checks c, Set<String> names) {
        Class<?>[] inside = GridRoom.class.getDeclaredClasses();
        c.due("some twelve classes", inside.length <= 12, true);
        for (Class<?> one : inside) {
            c.due(one + " is static", Modifier.isStatic(one.getModifiers()), true);
            c.due(one + " isn't seen", Modifier.isPublic(one.getModifiers()) || Modifier.isProtected(one.getModifiers()),
                    false);
            int fields = 0;
            for (Field f : one.getDeclaredFields()) {
                boolean isStatic = Modifier.isStatic(f.getModifiers());
                fields += isStatic ? 0 : 1;
                c.due(f + ": static ones are final", isStatic && !Modifier.isFinal(f.getModifiers()), false);
            }
            c.due(one + " has some twenty fields: " + fields, fields <= 20, true);
            for (Method m : one.getDeclaredMethods()) {
                c.due(m + " bears no name of the face", names.contains(m.getName()), false);
                c.due(m + " takes seven at most", m.getParameterCount() <= 7, true);
            }
        }
        for (Method m : GridRoom.class.getDeclaredMethods()) {
            c.due(m + " bears no name of the face", Modifier.isPrivate(m.getModifiers()) && names.contains(m.getName()),
                    false);
        }
    }
}
