import java.lang.reflect.Constructor;
import java.lang.reflect.Field;
import java.lang.reflect.Member;
import java.lang.reflect.Method;
import java.lang.reflect.Modifier;
import java.util.Set;
import java.util.TreeSet;

/** The public face is the document's, and nothing else of the class can be seen. */
public final class FaceTest {
    private static final String[] FACE = {
        "MagnetRows()",
        "int chain(int, boolean, int, int)", "long act(int, int)", "int turned(int)", "int size(int, int)",
        "int head(int, int, int)", "long entry(int, int, int, int)", "long poly(int, int, int)",
        "int above(int, int, int)", "int often(int, int, int)", "int whole(int, int)", "long power(int, int, int)",
        "long powerOf(int, int)", "long rest(int, int, int, int)", "long seen(int, int, int, int, int, int)",
        "int weights(int, int, int, int)", "int weightsOf(int, int, int, int)", "long weight(int, int)",
        "long rowEntry(int, int, int, int)", "int unlike(int, int, int)", "int ice(int, int, int)",
        "int walls(int, int)", "int exchange(int, int, int)", "int add(int, int, int, int, int)", "int clear(int)",
        "int asChain(int)", "int join(int, int, int, int)", "int shift(int, int, int)", "long word(int, int, int)",
        "int words(int)", "int bracket(int, int)", "int kept(int)", "int undo()", "int redo()",
        "int sheet(int, int, int)", "int lose(int)", "int put(int, int, int)", "long cell(int, int, int)",
        "int copy(int, int, int, int, int)", "int tell(int)", "int name(int)", "int as(int, int)", "int trace()",
        "int fault()", "int many(int)",
        "int UNKNOWN = -1", "int OUTSIDE = -2", "int STATE = -3", "int FULL = -4", "int SPENT = -6", "int NONE = -9",
        "long LOST = -9223372036854775808"
    };

    public static void main(String[] args) throws IllegalAccessException {
        Set<String> want = new TreeSet<>();
        for (String member : FACE) {
            want.add(member);
        }
        Set<String> got = new TreeSet<>();
        for (Constructor<?> made : MagnetRows.class.getDeclaredConstructors()) {
            addSeen(got, made, "MagnetRows" + parameters(made.getParameterTypes()));
        }
        for (Method method : MagnetRows.class.getDeclaredMethods()) {
            addSeen(got, method,
                method.getReturnType().getName() + " " + method.getName() + parameters(method.getParameterTypes()));
        }
        for (Field field : MagnetRows.class.getDeclaredFields()) {
            if (!Modifier.isPrivate(field.getModifiers())) {
                addSeen(got, field, field.getType().getName() + " " + field.getName() + " = " + field.get(null));
            }
        }
        boolean fine = got.equals(want) && Modifier.isFinal(MagnetRows.class.getModifiers());
        if (!fine) {
            System.out.println("the face is " + got + ", due is " + want);
            System.exit(1);
        }
        System.out.println("the face is as due: " + want.size() + " members");
    }

    private static void addSeen(Set<String> got, Member member, String text) {
        if (!Modifier.isPrivate(member.getModifiers())) {
            got.add((Modifier.isPublic(member.getModifiers()) ? "" : "not public: ") + text);
        }
    }

    private static String parameters(Class<?>[] types) {
        StringBuilder text = new StringBuilder("(");
        for (Class<?> type : types) {
            text.append(text.length() > 1 ? ", " : "").append(type.getName());
        }
        return text.append(")").toString();
    }
}
