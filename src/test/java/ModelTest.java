import java.util.Random;

/** Long runs of calls, the same ones every time, held against the second telling in Model. */
public final class ModelTest {
    private static final int RUNS = 1500;
    private static final int STEPS = 300;
    private static final Due due = new Due();
    private static final int[] loads = new int[7];

    private final Random random;
    private final Desk desk;
    private final Model model = new Model();
    private int tapeLength = 0;
    private int entries = 1;

    private ModelTest(int seed) {
        random = new Random(seed);
        desk = new Desk(due, "run " + seed);
    }

    public static void main(String[] args) {
        for (int seed = 0; seed < RUNS; seed++) {
            new ModelTest(seed).go();
        }
        // A run that never meets a kind of WRONG would prove nothing of it.
        for (int kind = 0; kind <= 6; kind++) {
            due.yes("loads with error " + kind + ": " + loads[kind] + " are enough", loads[kind] > 100);
        }
        due.end();
    }

    private void go() {
        for (int step = 0; step < STEPS; step++) {
            step();
        }
    }

    private int pick(int... values) {
        return values[random.nextInt(values.length)];
    }

    private boolean rarely() {
        return random.nextInt(30) == 0;
    }

    private int edge() {
        return pick(-2147483648, -65, -64, -1, 0, 1, 2147483584, 2147483646, 2147483647, random.nextInt());
    }

    private int address() {
        if (rarely()) {
            return edge();
        }
        int base = rarely() ? 2147482624 : 64 * random.nextInt(40);
        return base + (random.nextBoolean() ? pick(-3, -1, 0, 0, 1, 4, 60, 62, 63) : random.nextInt(64));
    }

    private int value() {
        return pick(0, 1, -1, 64, 72, 128, 256, random.nextInt(2560), random.nextInt());
    }

    private void step() {
        int kind = random.nextInt(100);
        if (kind < 36) {
            stepProcess();
        } else if (kind < 46) {
            dumpAndCopy();
        } else if (kind < 60) {
            spoil();
        } else if (kind < 70) {
            load();
        } else {
            ask();
        }
    }

    private void stepProcess() {
        int a = address();
        int v = value();
        switch (random.nextInt(7)) {
            case 0 -> {
                int start = rarely() ? a : rarely() ? 2147483584 - 64 * random.nextInt(20) : a & -64;
                int pages = rarely() ? pick(0, -1, 17, 67108865, edge()) : 1 + random.nextInt(pick(2, 4, 16));
                int flags = rarely() ? pick(-1, 8, edge()) : random.nextInt(8);
                desk.map(start, pages, flags).is(model.map(start, pages, flags));
            }
            case 1 -> {
                int start = random.nextInt(4) == 0 ? a & -64 : a;
                desk.unmap(start).is(model.unmap(start));
            }
            case 2 -> desk.poke(a, v).is(model.poke(a, v));
            case 3 -> {
                int next = pick(v, a + 8, a + 4, a + 16, a);
                desk.pokeFour(a, next).is(model.pokeFour(a, next));
            }
            case 4 -> {
                int id = random.nextInt(8);
                desk.thread(id).is(model.thread(id));
            }
            default -> {
                int t = rarely() ? edge() : random.nextInt(4);
                int r = rarely() ? edge() : pick(7, random.nextInt(9));
                int w = pick(v, a);
                desk.set(t, r, w).is(model.set(t, r, w));
            }
        }
    }

    private void dumpAndCopy() {
        if (random.nextInt(3) != 0) {
            desk.dump().is(model.dump());
        }
        tapeLength = (int) model.copy();
        desk.copy().is(tapeLength);
        entries = Math.max(1, (int) model.byteAt(44));
        int k = rarely() ? edge() : random.nextInt(tapeLength + 2);
        desk.byteAt(k).is(model.byteAt(k));
    }

    private void put(int k, int v) {
        long done = model.put(k, v);
        desk.put(k, v).is(done);
        if (done == 1 && k == tapeLength) {
            tapeLength++;
        }
    }

    private void cut(int n) {
        long done = model.cut(n);
        desk.cut(n).is(done);
        tapeLength = done == 1 ? n : tapeLength;
    }

    private void spoil() {
        int entry = 52 + 32 * random.nextInt(entries);
        int notes = 52 + 32 * entries;
        switch (random.nextInt(9)) {
            case 0 -> put(random.nextInt(52), pick(0, 1, 4, 5, 128, value()));
            case 1, 2 -> put(entry + random.nextInt(32), pick(0, 1, 4, 64, 128, 192, 255, value()));
            case 3 -> put(entry + 4 * random.nextInt(8), pick(0, 1, 4, 7, 8, 64, 128, 192, value()));
            case 4 -> put(entry + pick(4, 5, 8, 9, 16, 17, 20, 21), pick(0, 1, 2, 3, 64, 128, 192, value()));
            case 5 -> put(notes + random.nextInt(168), pick(0, 1, 5, 36, 37, 40, 67, value()));
            case 6 -> put(notes + 56 * random.nextInt(3) + pick(0, 4, 8, 8, 12, 20), pick(0, 1, 2, 5, 7, 32, 36, 92));
            case 7 -> put(rarely() ? edge() : tapeLength + pick(0, 0, 0, 1), value());
            default -> cut(rarely() ? edge() : tapeLength - pick(-1, 0, 1, 64, random.nextInt(tapeLength + 1)));
        }
    }

    private void load() {
        desk.load().is(model.load());
        desk.error(0).is(model.error(0));
        desk.error(1).is(model.error(1));
        loads[(int) model.error(0)]++;
    }

    private void ask() {
        int a = address();
        int t = rarely() ? edge() : random.nextInt(4);
        switch (random.nextInt(8)) {
            case 0 -> desk.error(t).is(model.error(t));
            case 1 -> desk.core(t).is(model.core(t));
            case 2 -> desk.peek(a).is(model.peek(a));
            case 3 -> desk.flags(a).is(model.flags(a));
            case 4 -> {
                int r = rarely() ? edge() : random.nextInt(10);
                desk.register(t, r).is(model.register(t, r));
            }
            case 5, 6 -> {
                int v = random.nextInt(3) == 0 ? (int) model.peek(a) : value();
                desk.find(v, a).is(model.find(v, a));
            }
            default -> {
                int i = rarely() ? edge() : random.nextInt(5);
                desk.caller(t, i).is(model.caller(t, i));
            }
        }
    }
}
