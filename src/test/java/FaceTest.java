import java.lang.reflect.Constructor;
import java.lang.reflect.Field;
import java.lang.reflect.InvocationTargetException;
import java.lang.reflect.Member;
import java.lang.reflect.Method;
import java.lang.reflect.Modifier;
import java.util.Arrays;
import java.util.TreeSet;

/** The public face: what the document lists and nothing else, and no call that throws by itself. */
public final class FaceTest extends Sentences {
    private static final int[] EDGES = {
        -2147483648, -2147483647, -65, -64, -4, -1, 0, 1, 3, 7, 8, 16, 63, 64,
        67108864, 2147483584, 2147483646, 2147483647};

    private static final int ROUND = 26;

    private static final String[] FACE = {
        "public CoreDesk()",
        "public static final int CoreDesk.NONE",
        "public boolean CoreDesk.map(int,int,int)",
        "public boolean CoreDesk.unmap(int)",
        "public boolean CoreDesk.poke(int,int)",
        "public boolean CoreDesk.pokeFour(int,int)",
        "public int CoreDesk.thread(int)",
        "public boolean CoreDesk.set(int,int,int)",
        "public int CoreDesk.dump()",
        "public int CoreDesk.byteAt(int)",
        "public int CoreDesk.copy()",
        "public boolean CoreDesk.put(int,int)",
        "public boolean CoreDesk.cut(int)",
        "public int CoreDesk.load() throws java.lang.IllegalArgumentException",
        "public int CoreDesk.error(int)",
        "public int CoreDesk.core(int)",
        "public int CoreDesk.peek(int)",
        "public int CoreDesk.flags(int)",
        "public int CoreDesk.register(int,int) throws java.lang.IndexOutOfBoundsException",
        "public int CoreDesk.find(int,int)",
        "public int CoreDesk.caller(int,int)"};

    public static void main(String[] args) {
        new FaceTest().run();
    }

    @Override
    void tests() {
        sentence("The public face: public final class CoreDesk", this::type);
        sentence("The public face: its constant, constructor and methods, and no other", this::members);
        sentence("LANGUAGE.md, rule 1: classes inside are static, and none but the face bears its names", this::names);
        sentence("The constants: NONE = -1", this::none);
        sentence("What it is: an object is used for at most 512 calls", this::allCallsPromised);
        sentence("The public face: a new object throws nothing but what it names", () -> edges(false));
        sentence("The public face: a used object throws nothing but what it names", () -> edges(true));
    }

    private void type() {
        int type = CoreDesk.class.getModifiers();
        due.yes("public", Modifier.isPublic(type));
        due.yes("final", Modifier.isFinal(type));
        due.same("interfaces", CoreDesk.class.getInterfaces().length, 0);
        due.yes("a class of its own", CoreDesk.class.getSuperclass() == Object.class);
    }

    private static void see(TreeSet<String> seen, Member member) {
        if (!Modifier.isPrivate(member.getModifiers()) && !member.isSynthetic()) {
            seen.add(member.toString());
        }
    }

    private void members() {
        TreeSet<String> seen = new TreeSet<>();
        for (Method m : CoreDesk.class.getDeclaredMethods()) {
            see(seen, m);
        }
        for (Field f : CoreDesk.class.getDeclaredFields()) {
            see(seen, f);
        }
        for (Constructor<?> c : CoreDesk.class.getDeclaredConstructors()) {
            see(seen, c);
        }
        due.text("the face", seen.toString(), new TreeSet<>(Arrays.asList(FACE)).toString());
    }

    private void names() {
        TreeSet<String> open = new TreeSet<>();
        for (Method m : CoreDesk.class.getDeclaredMethods()) {
            if (Modifier.isPublic(m.getModifiers())) {
                open.add(m.getName());
            }
        }
        for (Class<?> inside : CoreDesk.class.getDeclaredClasses()) {
            due.yes(inside + " is static", Modifier.isStatic(inside.getModifiers()));
            for (Method m : inside.getDeclaredMethods()) {
                due.no(inside + "." + m.getName() + " bears a name of the face", open.contains(m.getName()));
            }
        }
        for (Method m : CoreDesk.class.getDeclaredMethods()) {
            due.no(m + " bears a name of the face", Modifier.isPrivate(m.getModifiers()) && open.contains(m.getName()));
        }
    }

    private void none() {
        due.same("NONE", CoreDesk.NONE, -1);
        CoreDesk desk = new CoreDesk();
        due.same("byteAt(0)", desk.byteAt(0), CoreDesk.NONE);
        due.same("core(0)", desk.core(0), CoreDesk.NONE);
        due.same("peek(0)", desk.peek(0), CoreDesk.NONE);
        due.same("flags(0)", desk.flags(0), CoreDesk.NONE);
        due.same("find(0, 0)", desk.find(0, 0), CoreDesk.NONE);
        due.same("caller(0, 0)", desk.caller(0, 0), CoreDesk.NONE);
        due.same("thread(5)", desk.thread(5), 0);
        due.same("thread(5)", desk.thread(5), CoreDesk.NONE);
    }

    /** Whatever an object has been asked before, its last promised calls are answered like its first. */
    private void allCallsPromised() {
        Desk desk = desk();
        desk.thread(7).is(0);
        while (desk.left() % ROUND != 0) {
            desk.peek(64).none();
        }
        while (desk.left() > 0) {
            everyCall(desk);
        }
        due.same("rounds end with the 512th call, calls left", desk.left(), 0);
    }

    /** Each method's call, ROUND in all, such that they can be made again. */
    private void everyCall(Desk desk) {
        desk.map(64, 1, 3).yes();
        desk.poke(64, 65).yes();
        desk.pokeFour(68, 1000).yes();
        desk.poke(128, 1).no();
        desk.thread(7).none();
        desk.set(0, 7, 64).yes();
        desk.dump().is(236);
        desk.byteAt(172).is(65);
        desk.copy().is(236);
        desk.load().is(1);
        desk.core(0).is(1);
        desk.peek(64).is(65);
        desk.flags(127).is(3);
        desk.register(0, 8).is(7);
        desk.find(1000, 0).is(68);
        desk.caller(0, 0).is(1000);
        desk.register(1, 0).thrown();
        desk.put(84, 9).yes();
        desk.load().thrown();
        desk.error(0).is(3);
        desk.error(1).is(84);
        desk.cut(0).yes();
        desk.unmap(64).yes();
        desk.dump().is(140);
        desk.copy().is(140);
        desk.load().is(0);
    }

    private static CoreDesk usedDesk() {
        CoreDesk desk = new CoreDesk();
        desk.map(2147482624, 16, 7);
        desk.map(0, 16, 7);
        desk.thread(0);
        desk.set(0, 7, 2147483640);
        desk.dump();
        desk.copy();
        desk.load();
        return desk;
    }

    private void edges(boolean used) {
        for (Method m : CoreDesk.class.getDeclaredMethods()) {
            if (Modifier.isPublic(m.getModifiers())) {
                edges(used ? usedDesk() : new CoreDesk(), m);
            }
        }
    }

    /** Asked with arguments from all over the range of int, no call throws but what the document names. */
    private void edges(CoreDesk desk, Method m) {
        int n = m.getParameterCount();
        int rounds = n == 0 ? 1 : n == 1 ? EDGES.length : EDGES.length * EDGES.length;
        for (int round = 0; round < rounds; round++) {
            Object[] values = new Object[n];
            for (int i = 0; i < n; i++) {
                values[i] = EDGES[(i == 0 ? round : round / EDGES.length + i) % EDGES.length];
            }
            call(desk, m, values);
        }
    }

    private void call(CoreDesk desk, Method m, Object[] values) {
        boolean named = true;
        try {
            m.invoke(desk, values);
        } catch (InvocationTargetException e) {
            Class<?> kind = e.getCause().getClass();
            named = m.getExceptionTypes().length == 1 && m.getExceptionTypes()[0] == kind;
        } catch (IllegalAccessException e) {
            named = false;
        }
        due.yes(m.getName() + Arrays.toString(values) + " throws nothing but what the document names", named);
    }
}
