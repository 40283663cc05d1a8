import java.lang.reflect.Constructor;
import java.lang.reflect.Field;
import java.lang.reflect.Member;
import java.lang.reflect.Method;
import java.lang.reflect.Modifier;
import java.util.Arrays;
import java.util.Set;
import java.util.TreeSet;

/** The class has the document's face, and no other member that can be seen. */
public final class FaceTest {
    private static final String[] FACE = {
        "public static final int NONE",
        "public HoldChecker()",
        "public int status()",
        "public int feed(int, int, int, int, int)",
        "public int load(int)",
        "public int fault(int)",
        "public int many(int)",
        "public int kind(int, int)",
        "public int method(int, int, int)",
        "public int comes(int, int, int, boolean)",
        "public int tell(int, int, int, boolean, int)",
        "public int toEnd(int, int)",
        "public int towards(int, int)",
        "public int alike(int, int, int)",
        "public int rows(int, int, boolean)",
        "public int statement(int, int)",
        "public int variable(int)",
        "public int check(int)",
        "public int at(int, int, int)",
        "public int without(int)",
        "public int mend()",
        "public int paths(int)",
        "public int path(int)",
        "public int truly(int, int, int)",
        "public int left(int)",
        "public int never(int)",
        "public int run(int, int)",
        "public int runs(int, int, int)",
    };

    public static void main(String[] args) {
        Set<String> due = new TreeSet<>(Arrays.asList(FACE));
        Set<String> there = new TreeSet<>();
        for (Field field : HoldChecker.class.getDeclaredFields()) {
            note(there, field, field.getType().getName() + " " + field.getName());
        }
        for (Method method : HoldChecker.class.getDeclaredMethods()) {
            note(there, method, method.getReturnType().getName() + " " + method.getName()
                + parameters(method.getParameterTypes()));
        }
        for (Constructor<?> made : HoldChecker.class.getDeclaredConstructors()) {
            note(there, made, "HoldChecker" + parameters(made.getParameterTypes()));
        }
        boolean fine = due.equals(there);
        if (!fine) {
            System.out.println("the face is " + there + "\ndue is      " + due);
        }
        int modifiers = HoldChecker.class.getModifiers();
        if (!Modifier.isPublic(modifiers) || !Modifier.isFinal(modifiers) || HoldChecker.NONE != -1) {
            System.out.println("the class is not public and final, or NONE is not -1");
            fine = false;
        }
        System.exit(fine ? 0 : 1);
    }

    private static void note(Set<String> there, Member member, String text) {
        if (!Modifier.isPrivate(member.getModifiers()) && !member.isSynthetic()) {
            String modifiers = Modifier.toString(member.getModifiers());
            there.add(modifiers.isEmpty() ? text : modifiers + " " + text);
        }
    }

    private static String parameters(Class<?>[] types) {
        StringBuilder text = new StringBuilder("(");
        for (Class<?> type : types) {
            text.append(text.length() == 1 ? "" : ", ").append(type.getName());
        }
        return text.append(")").toString();
    }
}
