import java.util.ArrayList;
import java.util.List;
import java.util.TreeMap;

/**
 * A second telling of the document, without a thought of speed or room, to hold CoreDesk against.
 * Numbers are longs, memory is a map from addresses to bytes, and whatever is wrong is thrown.
 */
final class Model {
    private static final long NONE = -1;

    /** What is WRONG, and where. */
    private static final class Wrong extends Exception {
        private static final long serialVersionUID = 1;
        final int kind;
        final int place;

        Wrong(int kind, long place) {
            this.kind = kind;
            this.place = (int) place;
        }
    }

    private record Region(long address, long size, long flags) {
        boolean meets(Region other) {
            return address < other.address + other.size && other.address < address + size;
        }
    }

    private static final class State {
        final TreeMap<Long, Region> regions = new TreeMap<>();
        final TreeMap<Long, Integer> bytes = new TreeMap<>();
        final List<int[]> threads = new ArrayList<>();

        boolean add(Region region) {
            if (region.address < 0 || region.address % 64 != 0 || region.address + region.size > 1L << 31) {
                return false;
            }
            if (region.flags < 0 || region.flags > 7 || regions.size() == 6) {
                return false;
            }
            for (Region other : regions.values()) {
                if (region.meets(other)) {
                    return false;
                }
            }
            regions.put(region.address, region);
            for (long a = region.address; a < region.address + region.size; a++) {
                bytes.put(a, 0);
            }
            return true;
        }

        boolean all(long address, int n) {
            for (int i = 0; i < n; i++) {
                if (!bytes.containsKey(address + i)) {
                    return false;
                }
            }
            return true;
        }

        int number(long address) {
            long value = 0;
            for (int i = 0; i < 4; i++) {
                value += (long) bytes.get(address + i) << 8 * i;
            }
            return (int) value;
        }

        long usedBytes(Region region) {
            long used = 0;
            for (long page = 0; page < region.size; page += 64) {
                for (long k = page; k < page + 64; k++) {
                    if (bytes.get(region.address + k) != 0) {
                        used = page + 64;
                    }
                }
            }
            return used;
        }
    }

    private final State process = new State();
    private List<Integer> file = new ArrayList<>();
    private List<Integer> tape = new ArrayList<>();
    private State core = null;
    private int wrong = 0;
    private int place = 0;

    long map(int address, int pages, int flags) {
        return pages >= 1 && pages <= 16 && process.add(new Region(address, pages * 64L, flags)) ? 1 : 0;
    }

    long unmap(int address) {
        Region region = process.regions.remove((long) address);
        if (region == null) {
            return 0;
        }
        for (long a = region.address; a < region.address + region.size; a++) {
            process.bytes.remove(a);
        }
        return 1;
    }

    long poke(int address, int v) {
        return process.bytes.replace((long) address, v & 255) == null ? 0 : 1;
    }

    long pokeFour(int address, int v) {
        if (!process.all(address, 4)) {
            return 0;
        }
        for (int i = 0; i < 4; i++) {
            process.bytes.put(address + (long) i, v >>> 8 * i & 255);
        }
        return 1;
    }

    long thread(int id) {
        for (int[] other : process.threads) {
            if (other[8] == id) {
                return NONE;
            }
        }
        if (process.threads.size() == 3) {
            return NONE;
        }
        int[] registers = new int[9];
        registers[8] = id;
        process.threads.add(registers);
        return process.threads.size() - 1;
    }

    long set(int t, int r, int v) {
        if (t < 0 || t >= process.threads.size() || r < 0 || r > 7) {
            return 0;
        }
        process.threads.get(t)[r] = v;
        return 1;
    }

    long dump() {
        int entries = 1 + process.regions.size();
        int notes = 56 * process.threads.size();
        long where = 52 + 32 * entries;
        Bytes b = new Bytes().header(entries).notesEntry((int) where, notes);
        where += notes;
        for (Region r : process.regions.values()) {
            int used = (int) process.usedBytes(r);
            b.regionEntry((int) where, (int) r.address, used, (int) r.size, (int) r.flags);
            where += used;
        }
        for (int[] t : process.threads) {
            b.threadNote(t[8], t);
        }
        for (Region r : process.regions.values()) {
            long used = process.usedBytes(r);
            for (long k = 0; k < used; k++) {
                b.one(process.bytes.get(r.address + k));
            }
        }
        file = new ArrayList<>();
        for (int k = 0; k < b.length(); k++) {
            file.add(b.at(k));
        }
        return file.size();
    }

    long byteAt(int k) {
        return k < 0 || k >= file.size() ? NONE : file.get(k);
    }

    long copy() {
        tape = new ArrayList<>(file);
        return tape.size();
    }

    long put(int k, int v) {
        if (k < 0 || k > tape.size() || k == 8192) {
            return 0;
        }
        if (k == tape.size()) {
            tape.add(v & 255);
        } else {
            tape.set(k, v & 255);
        }
        return 1;
    }

    long cut(int n) {
        if (n < 0 || n > tape.size()) {
            return 0;
        }
        tape = new ArrayList<>(tape.subList(0, n));
        return 1;
    }

    long load() {
        try {
            core = readTape();
            wrong = 0;
            place = 0;
            return core.regions.size();
        } catch (Wrong e) {
            wrong = e.kind;
            place = e.place;
            return Answer.THROWN;
        }
    }

    long error(int what) {
        return what == 0 ? wrong : what == 1 ? place : 0;
    }

    long core(int what) {
        if (core == null || what < 0 || what > 1) {
            return NONE;
        }
        return what == 0 ? core.regions.size() : core.threads.size();
    }

    long peek(int address) {
        Integer b = core == null ? null : core.bytes.get((long) address);
        return b == null ? NONE : b;
    }

    long flags(int address) {
        if (core != null) {
            for (Region r : core.regions.values()) {
                if (r.address <= address && address < r.address + r.size) {
                    return r.flags;
                }
            }
        }
        return NONE;
    }

    long register(int t, int r) {
        if (core == null || t < 0 || t >= core.threads.size() || r < 0 || r > 8) {
            return Answer.THROWN;
        }
        return core.threads.get(t)[r];
    }

    long find(int v, int from) {
        if (core != null) {
            for (Region r : core.regions.values()) {
                for (long a = r.address; a + 3 < r.address + r.size; a++) {
                    if (a >= from && core.number(a) == v) {
                        return a;
                    }
                }
            }
        }
        return NONE;
    }

    long caller(int t, int i) {
        if (core == null || t < 0 || t >= core.threads.size() || i < 0) {
            return NONE;
        }
        long f = core.threads.get(t)[7];
        long last = Long.MIN_VALUE;
        long call = 0;
        while (f > 0 && f > last && core.all(f, 8)) {
            if (call == i) {
                return core.number(f + 4);
            }
            last = f;
            f = core.number(f);
            call++;
        }
        return NONE;
    }

    private int number(long k, int width) {
        long value = 0;
        for (int i = 0; i < width; i++) {
            value += (long) tape.get((int) k + i) << 8 * i;
        }
        return (int) value;
    }

    private static void must(boolean right, int kind, long place) throws Wrong {
        if (!right) {
            throw new Wrong(kind, place);
        }
    }

    private State readTape() throws Wrong {
        must(tape.size() >= 52, 1, tape.size());
        Bytes want = new Bytes().header(0);
        for (int k = 0; k < 16; k++) {
            must(tape.get(k) == want.at(k), 2, k);
        }
        int[] starts = {16, 18, 20, 24, 28, 32, 36, 40, 42, 44, 46, 48, 50, 52};
        for (int f = 0; f < 13; f++) {
            for (int k = starts[f]; k < starts[f + 1]; k++) {
                must(k == 44 || tape.get(k) == want.at(k), 2, starts[f]);
            }
            must(f != 9 || tape.get(44) >= 1 && tape.get(44) <= 7, 2, 44);
        }
        int entries = tape.get(44);
        must(52 + 32 * entries <= tape.size(), 1, tape.size());
        for (int e = 0; e < entries; e++) {
            readEntry(e, 52 + 32 * entries);
        }
        State state = new State();
        readNotes(state);
        for (int e = 1; e < entries; e++) {
            state.add(regionOf(e));
            for (int k = 0; k < number(52 + 32 * e + 16, 4); k++) {
                state.bytes.put(regionOf(e).address + k, tape.get(number(52 + 32 * e + 4, 4) + k));
            }
        }
        return state;
    }

    private Region regionOf(int e) {
        long at = 52 + 32L * e;
        return new Region(number(at + 8, 4), number(at + 20, 4), number(at + 24, 4));
    }

    private void readEntry(int e, int end) throws Wrong {
        long at = 52 + 32L * e;
        boolean notes = e == 0;
        long[] f = new long[8];
        for (int i = 0; i < 8; i++) {
            f[i] = number(at + 4 * i, 4);
        }
        must(f[0] == (notes ? 4 : 1), 3, at);
        must(f[1] >= end, 3, at + 4);
        must(notes ? f[2] == 0 : f[2] >= 0 && f[2] % 64 == 0, 3, at + 8);
        must(f[3] == 0, 3, at + 12);
        must(f[4] >= 0 && (notes || f[4] % 64 == 0 && f[4] <= 1024), 3, at + 16);
        boolean size = f[5] % 64 == 0 && f[5] >= 64 && f[5] <= 1024 && f[5] >= f[4] && f[2] + f[5] - 1 <= 2147483647L;
        must(notes ? f[5] == f[4] : size, 3, at + 20);
        must(notes ? f[6] == 0 : f[6] >= 0 && f[6] <= 7, 3, at + 24);
        must(f[7] == (notes ? 4 : 64), 3, at + 28);
        must(f[1] + f[4] <= tape.size(), 1, at + 4);
        for (int o = 0; o < e; o++) {
            long start = number(52 + 32L * o + 4, 4);
            long stop = start + number(52 + 32L * o + 16, 4);
            for (long k = f[1]; k < f[1] + f[4]; k++) {
                must(k < start || k >= stop, 4, at + 4);
            }
        }
        for (int o = 1; o < e; o++) {
            must(!regionOf(e).meets(regionOf(o)), 5, at + 8);
        }
    }

    private void readNotes(State state) throws Wrong {
        long at = number(56, 4);
        long end = at + number(68, 4);
        int[] name = {67, 79, 82, 69, 0, 0, 0, 0};
        while (at < end) {
            must(at + 20 <= end, 6, at);
            must(number(at, 4) == 5, 6, at);
            for (int i = 0; i < 8; i++) {
                must(tape.get((int) at + 12 + i) == name[i], 6, at + 12 + i);
            }
            long n = number(at + 4, 4);
            long padded = n % 4 == 0 ? n : n + 4 - n % 4;
            must(n >= 0 && at + 20 + padded <= end, 6, at + 4);
            if (number(at + 8, 4) == 1) {
                must(n == 36, 6, at + 4);
                readThread(state, at);
            }
            at += 20 + padded;
        }
    }

    private void readThread(State state, long at) throws Wrong {
        int[] registers = new int[9];
        registers[8] = number(at + 20, 4);
        for (int r = 0; r < 8; r++) {
            registers[r] = number(at + 24 + 4 * r, 4);
        }
        for (int[] other : state.threads) {
            must(other[8] != registers[8], 6, at + 20);
        }
        must(state.threads.size() < 3, 6, at);
        state.threads.add(registers);
    }
}
