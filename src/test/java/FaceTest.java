import java.lang.reflect.Constructor;
import java.lang.reflect.Field;
import java.lang.reflect.Method;
import java.lang.reflect.Modifier;
import java.util.TreeSet;

/** The class shows the document's face and no member more (LANGUAGE.md, rules 1 and 5). */
public final class FaceTest {
    private static final String[] FACE = {
        "public ParagraphBreaker(int,int)",
        "public boolean ParagraphBreaker.change(int,int,int)",
        "public boolean ParagraphBreaker.setWidth(int)",
        "public int ParagraphBreaker.back()",
        "public int ParagraphBreaker.choices()",
        "public int ParagraphBreaker.cost()",
        "public int ParagraphBreaker.costBreaking(int)",
        "public int ParagraphBreaker.costKeeping(int)",
        "public int ParagraphBreaker.costWith(int)",
        "public int ParagraphBreaker.endOf(int)",
        "public int ParagraphBreaker.lengthOf(int)",
        "public int ParagraphBreaker.lineOf(int)",
        "public int ParagraphBreaker.lines()",
        "public int ParagraphBreaker.word(int,int)",
        "public int ParagraphBreaker.words()",
        "public static final int ParagraphBreaker.BAD",
        "public static final int ParagraphBreaker.FULL",
        "public static final int ParagraphBreaker.NONE",
    };

    public static void main(String[] args) {
        Class<?> type = ParagraphBreaker.class;
        TreeSet<String> seen = new TreeSet<>();
        for (Constructor<?> c : type.getDeclaredConstructors()) {
            seen.add(c.toString());
        }
        for (Method m : type.getDeclaredMethods()) {
            if (!Modifier.isPrivate(m.getModifiers())) {
                seen.add(m.toString());
            }
        }
        for (Field f : type.getDeclaredFields()) {
            if (!Modifier.isPrivate(f.getModifiers())) {
                seen.add(f.toString());
            }
            if (Modifier.isStatic(f.getModifiers())) {
                Check.due("static field " + f.getName() + " final", true, Modifier.isFinal(f.getModifiers()));
                Check.due("static field " + f.getName() + " a number", true,
                    f.getType() == int.class || f.getType() == long.class);
            }
        }
        TreeSet<String> due = new TreeSet<>();
        for (String member : FACE) {
            due.add(member);
        }
        Check.due("the visible members", due.toString(), seen.toString());
        Check.due("public final", Modifier.PUBLIC | Modifier.FINAL,
            type.getModifiers() & (Modifier.PUBLIC | Modifier.FINAL));
        Check.due("nested classes", 0, type.getDeclaredClasses().length);
        Check.due("NONE", -1000000, ParagraphBreaker.NONE);
        Check.due("FULL", -2, ParagraphBreaker.FULL);
        Check.due("BAD", -1, ParagraphBreaker.BAD);
        privateNamesDiffer(type);
        Check.end();
    }

    private static void privateNamesDiffer(Class<?> type) {
        TreeSet<String> visible = new TreeSet<>();
        for (Method m : type.getMethods()) {
            visible.add(m.getName());
        }
        for (Method m : type.getDeclaredMethods()) {
            if (Modifier.isPrivate(m.getModifiers())) {
                Check.due("a public method named " + m.getName(), false, visible.contains(m.getName()));
            }
        }
    }
}
