import java.lang.reflect.Constructor;
import java.lang.reflect.Field;
import java.lang.reflect.Method;
import java.lang.reflect.Modifier;
import java.util.Set;
import java.util.TreeSet;

/** The class has the members of the document's public face, and shows no other. */
public final class FaceTest {
    private static final Set<String> FACE = new TreeSet<>(Set.of(
            "public static final int SelectiveUndo.BAD_ARG",
            "public static final int SelectiveUndo.FULL",
            "public static final int SelectiveUndo.NONE",
            "public SelectiveUndo()",
            "public int SelectiveUndo.type(int,int)",
            "public int SelectiveUndo.erase(int,int)",
            "public int SelectiveUndo.put(int,int)",
            "public int SelectiveUndo.undo()",
            "public int SelectiveUndo.redo()",
            "public int SelectiveUndo.flip(int,int)",
            "public int SelectiveUndo.changes()",
            "public boolean SelectiveUndo.isOn(int)",
            "public int SelectiveUndo.length()",
            "public int SelectiveUndo.letter(int)",
            "public int SelectiveUndo.origin(int)",
            "public int SelectiveUndo.where(int)",
            "public int SelectiveUndo.covers(int)",
            "public int SelectiveUndo.coveredBy(int)",
            "public int SelectiveUndo.effect(int)",
            "public int SelectiveUndo.digest()"));

    public static void main(String[] args) {
        Due due = new Due();
        due.answer("the class's modifiers", SelectiveUndo.class.getModifiers(), Modifier.PUBLIC | Modifier.FINAL);
        due.answer("BAD_ARG", SelectiveUndo.BAD_ARG, -1);
        due.answer("FULL", SelectiveUndo.FULL, -2);
        due.answer("NONE", SelectiveUndo.NONE, -4);
        Set<String> seen = seenMembers();
        if (!seen.equals(FACE)) {
            due.say("the face is " + seen + ", due is " + FACE);
        }
        due.end();
    }

    private static Set<String> seenMembers() {
        Set<String> seen = new TreeSet<>();
        for (Field field : SelectiveUndo.class.getDeclaredFields()) {
            addUnlessPrivate(seen, field.getModifiers(), field.toString());
        }
        for (Constructor<?> constructor : SelectiveUndo.class.getDeclaredConstructors()) {
            addUnlessPrivate(seen, constructor.getModifiers(), constructor.toString());
        }
        for (Method method : SelectiveUndo.class.getDeclaredMethods()) {
            addUnlessPrivate(seen, method.getModifiers(), method.toString());
        }
        return seen;
    }

    private static void addUnlessPrivate(Set<String> seen, int modifiers, String member) {
        if (!Modifier.isPrivate(modifiers)) {
            seen.add(member);
        }
    }
}
