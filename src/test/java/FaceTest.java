import java.lang.reflect.Constructor;
import java.lang.reflect.Field;
import java.lang.reflect.Method;
import java.lang.reflect.Modifier;
import java.util.Arrays;
import java.util.TreeSet;

/** The class shows the constants, the constructor and the methods of the document, and nothing else. */
public final class FaceTest {
    private static final String[] FACE = {
        "public static final int NONE", "public static final long NOTHING", "public ZigzagTablets()",
        "public int feed(int,int,int,int,int)", "public boolean end(int)", "public int tablet()",
        "public int fault(int)", "public int has(int)", "public int letter(int,int)",
        "public int column(int,int)", "public long value(int,int)", "public int kept(int,int)",
        "public long later(int,int)", "public long bounds(int,int,int)", "public int period(int)",
        "public int when(int,int)", "public int meet(int,int)", "public int marks(int,int)",
        "public int heal(int)", "public int odds(int)", "public int find()", "public int fits(int)",
        "public int differences(int,int)", "public int tells(int)", "public int write(int)",
        "public boolean put(int,int)", "public boolean turn(int)", "public int chance(int)",
        "public boolean undo()", "public boolean seed(int)", "public long ask()", "public int image()",
        "public int octet(int)", "public boolean on()", "public int status(int)",
    };

    public static void main(String[] args) {
        Desk.about = "the face";
        Class<?> face = ZigzagTablets.class;
        TreeSet<String> shown = new TreeSet<>();
        TreeSet<String> hidden = new TreeSet<>();
        for (Field f : face.getDeclaredFields()) {
            note(f.getModifiers(), f.toString(), shown);
        }
        for (Constructor<?> c : face.getDeclaredConstructors()) {
            note(c.getModifiers(), c.toString(), shown);
        }
        for (Method m : face.getDeclaredMethods()) {
            note(m.getModifiers(), m.toString(), shown);
            hidden.add((Modifier.isPrivate(m.getModifiers()) ? "private " : "public ") + m.getName());
        }
        TreeSet<String> want = new TreeSet<>(Arrays.asList(FACE));
        Desk.due("the members " + shown, shown.equals(want), true);
        for (Method m : face.getDeclaredMethods()) {
            Desk.due("two named " + m.getName(),
                    hidden.contains("private " + m.getName()) && hidden.contains("public " + m.getName()), false);
        }
        Desk.due("final", Modifier.isFinal(face.getModifiers()) && Modifier.isPublic(face.getModifiers()), true);
        Desk.due("NONE", ZigzagTablets.NONE, -1);
        Desk.due("NOTHING", ZigzagTablets.NOTHING, -1000000000000000L);
        for (Class<?> inside : face.getDeclaredClasses()) {
            Desk.due(inside + " is static", Modifier.isStatic(inside.getModifiers()), true);
            Desk.due(inside + " is not public", Modifier.isPublic(inside.getModifiers()), false);
        }
        Desk.finish();
    }

    private static void note(int modifiers, String member, TreeSet<String> shown) {
        if (!Modifier.isPrivate(modifiers)) {
            shown.add(member.replace("ZigzagTablets.", ""));
        }
    }
}
