import java.lang.reflect.Constructor;
import java.lang.reflect.Field;
import java.lang.reflect.Method;
import java.lang.reflect.Modifier;
import java.util.Arrays;
import java.util.Set;
import java.util.TreeSet;

/** The public face: the members of the document, as they stand there, and no other that is not private. */
public final class FaceTest {
    private static final String[] FACE = {
        "public static final int NOT_DONE = 0",
        "public static final int OK = 1",
        "public static final int UNSAFE = 2",
        "public static final int INCONSISTENT = 3",
        "public static final int CODING = 4",
        "public static final int NONCONFORMING = 5",
        "public static final int HAZARD = 6",
        "public static final int STALL = 7",
        "public static final int BAD = -1",
        "public static final int FULL = -2",
        "public StgSynth(int, int)",
        "public int addTransition(int, int, int, int)",
        "public boolean setInput(int, boolean)",
        "public boolean setStart(int, int)",
        "public int explore()",
        "public int verdict()",
        "public int states()",
        "public boolean isReachable(int, int)",
        "public int nextValue(int, int)",
        "public int conflict()",
        "public int primes(int)",
        "public int coverSize(int)",
        "public int coverCube(int, int)",
        "public boolean setGate(int, int)",
        "public int gate(int, int)",
        "public int verify()",
        "public int witness(int)",
    };

    public static void main(String[] args) throws Exception {
        Set<String> want = new TreeSet<>(Arrays.asList(FACE));
        Set<String> got = visibleMembers();
        boolean right = want.equals(got) && Modifier.toString(StgSynth.class.getModifiers()).equals("public final");
        if (!right) {
            System.out.println("due:  " + want);
            System.out.println("seen: " + got);
            System.exit(1);
        }
        System.out.println("the face is as due");
    }

    private static Set<String> visibleMembers() throws Exception {
        Set<String> seen = new TreeSet<>();
        for (Field field : StgSynth.class.getDeclaredFields()) {
            if (!Modifier.isPrivate(field.getModifiers())) {
                seen.add(head(field.getModifiers()) + field.getType() + " " + field.getName() + " = " + field.get(null));
            }
        }
        for (Method method : StgSynth.class.getDeclaredMethods()) {
            if (!Modifier.isPrivate(method.getModifiers())) {
                seen.add(head(method.getModifiers()) + method.getReturnType() + " " + method.getName()
                    + list(method.getParameterTypes()));
            }
        }
        for (Constructor<?> made : StgSynth.class.getDeclaredConstructors()) {
            if (!Modifier.isPrivate(made.getModifiers())) {
                seen.add(head(made.getModifiers()) + "StgSynth" + list(made.getParameterTypes()));
            }
        }
        return seen;
    }

    private static String head(int modifiers) {
        return modifiers == 0 ? "" : Modifier.toString(modifiers) + " ";
    }

    private static String list(Class<?>[] types) {
        String text = Arrays.toString(types);
        return "(" + text.substring(1, text.length() - 1) + ")";
    }
}
