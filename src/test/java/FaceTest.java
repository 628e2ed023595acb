import java.lang.reflect.Constructor;
import java.lang.reflect.Field;
import java.lang.reflect.InvocationTargetException;
import java.lang.reflect.Method;
import java.lang.reflect.Modifier;
import java.util.Arrays;
import java.util.TreeSet;

/** The public face: what the document lists and nothing else, and no call that throws by itself. */
public final class FaceTest {
    private static final Due due = new Due();
    private static final int[] EDGES = {
        -2147483648, -2147483647, -65, -64, -4, -1, 0, 1, 3, 7, 8, 16, 63, 64,
        67108864, 2147483584, 2147483646, 2147483647};

    public static void main(String[] args) throws Exception {
        members();
        names();
        for (Method m : CoreDesk.class.getDeclaredMethods()) {
            if (Modifier.isPublic(m.getModifiers())) {
                edges(new CoreDesk(), m);
                edges(usedDesk(), m);
            }
        }
        due.end();
    }

    private static CoreDesk usedDesk() {
        CoreDesk desk = new CoreDesk();
        desk.map(2147482624, 16, 7);
        desk.map(0, 16, 7);
        desk.thread(0);
        desk.set(0, 7, 2147483640);
        desk.dump();
        desk.copy();
        desk.load();
        return desk;
    }

    private static void members() {
        int type = CoreDesk.class.getModifiers();
        due.yes("public final", Modifier.isPublic(type) && Modifier.isFinal(type));
        TreeSet<String> seen = new TreeSet<>();
        for (Method m : CoreDesk.class.getDeclaredMethods()) {
            if (!Modifier.isPrivate(m.getModifiers())) {
                seen.add(describe(m));
            }
        }
        for (Field f : CoreDesk.class.getDeclaredFields()) {
            if (!Modifier.isPrivate(f.getModifiers())) {
                seen.add(Modifier.toString(f.getModifiers()) + " " + f.getType() + " " + f.getName());
            }
        }
        for (Constructor<?> c : CoreDesk.class.getDeclaredConstructors()) {
            if (!Modifier.isPrivate(c.getModifiers())) {
                seen.add("new" + c.getParameterCount());
            }
        }
        due.text("the face", String.join("; ", seen), "boolean cut1; boolean map3; boolean poke2; boolean pokeFour2; "
            + "boolean put2; boolean set3; boolean unmap1; int byteAt1; int caller2; int copy0; int core1; int dump0; "
            + "int error1; int find2; int flags1; int load0 IllegalArgumentException; int peek1; "
            + "int register2 IndexOutOfBoundsException; int thread1; new0; public static final int NONE");
    }

    private static String describe(Method m) {
        StringBuilder text = new StringBuilder();
        text.append(m.getReturnType()).append(' ').append(m.getName()).append(m.getParameterCount());
        for (Class<?> e : m.getExceptionTypes()) {
            text.append(' ').append(e.getSimpleName());
        }
        if (!Modifier.isPublic(m.getModifiers()) || Modifier.isStatic(m.getModifiers())) {
            text.append(" not public or static");
        }
        return text.toString();
    }

    private static void names() {
        TreeSet<String> open = new TreeSet<>();
        for (Method m : CoreDesk.class.getDeclaredMethods()) {
            if (Modifier.isPublic(m.getModifiers())) {
                open.add(m.getName());
            }
        }
        for (Class<?> inside : CoreDesk.class.getDeclaredClasses()) {
            due.yes(inside + " is static", Modifier.isStatic(inside.getModifiers()));
            for (Method m : inside.getDeclaredMethods()) {
                due.no(inside + "." + m.getName() + " bears a name of the face", open.contains(m.getName()));
            }
        }
        for (Method m : CoreDesk.class.getDeclaredMethods()) {
            due.no(m + " bears a name of the face", Modifier.isPrivate(m.getModifiers()) && open.contains(m.getName()));
        }
    }

    /** Asked with arguments from all over the range of int, no call throws but what the document names. */
    private static void edges(CoreDesk desk, Method m) throws Exception {
        int n = m.getParameterCount();
        int rounds = n == 0 ? 1 : n == 1 ? EDGES.length : EDGES.length * EDGES.length;
        for (int round = 0; round < rounds; round++) {
            Object[] values = new Object[n];
            for (int i = 0; i < n; i++) {
                values[i] = EDGES[(i == 0 ? round : round / EDGES.length + i) % EDGES.length];
            }
            call(desk, m, values);
        }
    }

    private static void call(CoreDesk desk, Method m, Object[] values) throws Exception {
        boolean named = true;
        try {
            m.invoke(desk, values);
        } catch (InvocationTargetException e) {
            Class<?> kind = e.getCause().getClass();
            named = m.getExceptionTypes().length == 1 && m.getExceptionTypes()[0] == kind;
        }
        due.yes(m.getName() + Arrays.toString(values) + " throws nothing but what the document names", named);
    }
}
