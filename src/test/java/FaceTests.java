import java.lang.reflect.Constructor;
import java.lang.reflect.Field;
import java.lang.reflect.Method;
import java.lang.reflect.Modifier;
import java.util.Arrays;
import java.util.Set;
import java.util.TreeSet;

/** The public face: the members of the document, and no other that is not private. */
public final class FaceTests {
    private static final String[] DUE = {
        "public static final int BAD = -9",
        "public static final int BUSY = -8",
        "public static final int LOST = -7",
        "public static final int OPEN = -6",
        "public RoamingRegisters(int)",
        "public boolean digits(int, int)",
        "public boolean title(int, int, boolean)",
        "public int appear(int, int)",
        "public int ask(int)",
        "public int answer(int)",
        "public int deliver(int)",
        "public boolean lose(int)",
        "public boolean copy(int)",
        "public int flying()",
        "public int datagram(int, int)",
        "public int tick()",
        "public boolean holds(int, int)",
        "public int location(int)",
        "public int registration(int, int)",
        "public int dialogues(int)",
        "public int dialogue(int, int)",
        "public int cancellation(int)",
        "public int call(int)",
    };

    public static void main(String[] args) throws IllegalAccessException {
        Set<String> due = new TreeSet<>(Arrays.asList(DUE));
        Set<String> got = face();
        int wrong = 0;
        for (String member : due) {
            if (!got.contains(member)) {
                wrong++;
                System.out.println("missing: " + member);
            }
        }
        for (String member : got) {
            if (!due.contains(member)) {
                wrong++;
                System.out.println("not of the document: " + member);
            }
        }
        int modifiers = RoamingRegisters.class.getModifiers();
        if (!Modifier.isPublic(modifiers) || !Modifier.isFinal(modifiers)) {
            wrong++;
            System.out.println("the class is not public and final");
        }
        wrong += namesUsedTwice() + classesNotDue();
        System.out.println(wrong == 0 ? "the face is as due" : wrong + " members are not as due");
        if (wrong != 0) {
            System.exit(1);
        }
    }

    /** LANGUAGE.md, rule 1: no private method bears the name of a public one. */
    private static int namesUsedTwice() {
        Set<String> open = new TreeSet<>();
        for (Method m : RoamingRegisters.class.getDeclaredMethods()) {
            if (Modifier.isPublic(m.getModifiers())) {
                open.add(m.getName());
            }
        }
        int wrong = 0;
        for (Method m : RoamingRegisters.class.getDeclaredMethods()) {
            if (!Modifier.isPublic(m.getModifiers()) && open.contains(m.getName())) {
                wrong++;
                System.out.println("bears the name of a public method: " + m);
            }
        }
        return wrong;
    }

    /** LANGUAGE.md, rule 1: the classes inside are private or package-visible and static. */
    private static int classesNotDue() {
        int wrong = 0;
        for (Class<?> c : RoamingRegisters.class.getDeclaredClasses()) {
            int modifiers = c.getModifiers();
            if (Modifier.isPublic(modifiers) || Modifier.isProtected(modifiers) || !Modifier.isStatic(modifiers)) {
                wrong++;
                System.out.println("is public or protected or not static: " + c);
            }
        }
        return wrong;
    }

    private static Set<String> face() throws IllegalAccessException {
        Set<String> face = new TreeSet<>();
        for (Field f : RoamingRegisters.class.getDeclaredFields()) {
            if (!Modifier.isPrivate(f.getModifiers())) {
                face.add(Modifier.toString(f.getModifiers()) + " " + f.getType() + " " + f.getName() + " = " + f.getInt(null));
            }
        }
        for (Constructor<?> c : RoamingRegisters.class.getDeclaredConstructors()) {
            if (!Modifier.isPrivate(c.getModifiers())) {
                face.add(Modifier.toString(c.getModifiers()) + " RoamingRegisters" + list(c.getParameterTypes()));
            }
        }
        for (Method m : RoamingRegisters.class.getDeclaredMethods()) {
            if (!Modifier.isPrivate(m.getModifiers())) {
                face.add(Modifier.toString(m.getModifiers()) + " " + m.getReturnType() + " " + m.getName() + list(m.getParameterTypes()));
            }
        }
        return face;
    }

    private static String list(Class<?>[] types) {
        StringBuilder text = new StringBuilder("(");
        for (int k = 0; k < types.length; k++) {
            text.append(k == 0 ? "" : ", ").append(types[k]);
        }
        return text.append(")").toString();
    }
}
