import java.util.Random;

/** Long runs of calls, the same ones every time, held against the second telling in Model. */
public final class ModelTest {
    private static final int RUNS = 1500;
    private static final int STEPS = 300;
    private static final Due due = new Due();
    private static final int[] loads = new int[7];

    private final Random random;
    private final CoreDesk desk = new CoreDesk();
    private final Model model = new Model();
    private final String run;
    private int tapeLength = 0;
    private int entries = 1;

    private ModelTest(int seed) {
        random = new Random(seed);
        run = "run " + seed + ": ";
    }

    public static void main(String[] args) {
        for (int seed = 0; seed < RUNS; seed++) {
            new ModelTest(seed).go();
        }
        // A run that never meets a kind of WRONG would prove nothing of it.
        for (int kind = 0; kind <= 6; kind++) {
            due.yes("loads with error " + kind + ": " + loads[kind] + " are enough", loads[kind] > 100);
        }
        due.end();
    }

    private void go() {
        for (int step = 0; step < STEPS; step++) {
            step();
        }
    }

    private int pick(int... values) {
        return values[random.nextInt(values.length)];
    }

    private boolean rarely() {
        return random.nextInt(30) == 0;
    }

    private int edge() {
        return pick(-2147483648, -65, -64, -1, 0, 1, 2147483584, 2147483646, 2147483647, random.nextInt());
    }

    private int address() {
        if (rarely()) {
            return edge();
        }
        int base = rarely() ? 2147482624 : 64 * random.nextInt(40);
        return base + (random.nextBoolean() ? pick(-3, -1, 0, 0, 1, 4, 60, 62, 63) : random.nextInt(64));
    }

    private int value() {
        return pick(0, 1, -1, 64, 72, 128, 256, random.nextInt(2560), random.nextInt());
    }

    private void step() {
        int kind = random.nextInt(100);
        if (kind < 36) {
            stepProcess();
        } else if (kind < 46) {
            dumpAndCopy();
        } else if (kind < 60) {
            spoil();
        } else if (kind < 70) {
            load();
        } else {
            ask();
        }
    }

    private void same(String call, long got, long want) {
        due.same(run + call, got, want);
    }

    private void stepProcess() {
        int a = address();
        int v = value();
        switch (random.nextInt(7)) {
            case 0 -> {
                int start = rarely() ? a : rarely() ? 2147483584 - 64 * random.nextInt(20) : a & -64;
                int pages = rarely() ? pick(0, -1, 17, 67108865, edge()) : 1 + random.nextInt(pick(2, 4, 16));
                int flags = rarely() ? pick(-1, 8, edge()) : random.nextInt(8);
                same("map(" + start + ", " + pages + ", " + flags + ")",
                    desk.map(start, pages, flags) ? 1 : 0, model.map(start, pages, flags));
            }
            case 1 -> {
                int start = random.nextInt(4) == 0 ? a & -64 : a;
                same("unmap(" + start + ")", desk.unmap(start) ? 1 : 0, model.unmap(start));
            }
            case 2 -> same("poke(" + a + ", " + v + ")", desk.poke(a, v) ? 1 : 0, model.poke(a, v));
            case 3 -> {
                int next = pick(v, a + 8, a + 4, a + 16, a);
                same("pokeFour(" + a + ", " + next + ")", desk.pokeFour(a, next) ? 1 : 0, model.pokeFour(a, next));
            }
            case 4 -> {
                int id = random.nextInt(8);
                same("thread(" + id + ")", desk.thread(id), model.thread(id));
            }
            default -> {
                int t = rarely() ? edge() : random.nextInt(4);
                int r = rarely() ? edge() : pick(7, random.nextInt(9));
                int w = pick(v, a);
                same("set(" + t + ", " + r + ", " + w + ")", desk.set(t, r, w) ? 1 : 0, model.set(t, r, w));
            }
        }
    }

    private void dumpAndCopy() {
        if (random.nextInt(3) != 0) {
            same("dump()", desk.dump(), model.dump());
        }
        tapeLength = desk.copy();
        same("copy()", tapeLength, model.copy());
        entries = Math.max(1, (int) model.byteAt(44));
        int k = rarely() ? edge() : random.nextInt(tapeLength + 2);
        same("byteAt(" + k + ")", desk.byteAt(k), model.byteAt(k));
    }

    private void put(int k, int v) {
        boolean done = desk.put(k, v);
        same("put(" + k + ", " + v + ")", done ? 1 : 0, model.put(k, v));
        if (done && k == tapeLength) {
            tapeLength++;
        }
    }

    private void spoil() {
        int entry = 52 + 32 * random.nextInt(entries);
        int notes = 52 + 32 * entries;
        switch (random.nextInt(9)) {
            case 0 -> put(random.nextInt(52), pick(0, 1, 4, 5, 128, value()));
            case 1, 2 -> put(entry + random.nextInt(32), pick(0, 1, 4, 64, 128, 192, 255, value()));
            case 3 -> put(entry + 4 * random.nextInt(8), pick(0, 1, 4, 7, 8, 64, 128, 192, value()));
            case 4 -> put(entry + pick(4, 5, 8, 9, 16, 17, 20, 21), pick(0, 1, 2, 3, 64, 128, 192, value()));
            case 5 -> put(notes + random.nextInt(168), pick(0, 1, 5, 36, 37, 40, 67, value()));
            case 6 -> put(notes + 56 * random.nextInt(3) + pick(0, 4, 8, 8, 12, 20), pick(0, 1, 2, 5, 7, 32, 36, 92));
            case 7 -> put(rarely() ? edge() : tapeLength + pick(0, 0, 0, 1), value());
            default -> {
                int n = rarely() ? edge() : tapeLength - pick(-1, 0, 1, 64, random.nextInt(tapeLength + 1));
                boolean done = desk.cut(n);
                same("cut(" + n + ")", done ? 1 : 0, model.cut(n));
                tapeLength = done ? n : tapeLength;
            }
        }
    }

    private void load() {
        Long want = model.load();
        try {
            int got = desk.load();
            same("load() throws", 0, want == null ? 1 : 0);
            same("load()", got, want == null ? got : want);
        } catch (IllegalArgumentException e) {
            same("load() throws", 1, want == null ? 1 : 0);
        }
        same("error(0)", desk.error(0), model.error(0));
        same("error(1)", desk.error(1), model.error(1));
        loads[(int) model.error(0)]++;
    }

    private void ask() {
        int a = address();
        int t = rarely() ? edge() : random.nextInt(4);
        switch (random.nextInt(8)) {
            case 0 -> same("error", desk.error(t), model.error(t));
            case 1 -> same("core(" + t + ")", desk.core(t), model.core(t));
            case 2 -> same("peek(" + a + ")", desk.peek(a), model.peek(a));
            case 3 -> same("flags(" + a + ")", desk.flags(a), model.flags(a));
            case 4 -> askRegister(t, rarely() ? edge() : random.nextInt(10));
            case 5, 6 -> {
                int v = random.nextInt(3) == 0 ? (int) model.peek(a) : value();
                same("find(" + v + ", " + a + ")", desk.find(v, a), model.find(v, a));
            }
            default -> {
                int i = rarely() ? edge() : random.nextInt(5);
                same("caller(" + t + ", " + i + ")", desk.caller(t, i), model.caller(t, i));
            }
        }
    }

    private void askRegister(int t, int r) {
        Long want = model.register(t, r);
        String call = "register(" + t + ", " + r + ")";
        try {
            int got = desk.register(t, r);
            same(call + " throws", 0, want == null ? 1 : 0);
            same(call, got, want == null ? got : want);
        } catch (IndexOutOfBoundsException e) {
            same(call + " throws", 1, want == null ? 1 : 0);
        }
    }
}
