import java.util.Arrays;

public final class CoreDesk {
    public static final int NONE = -1;

    private static final int LAST_ADDRESS = 2147483647;
    private static final int PAGE = 64;
    private static final int MOST_PAGES = 16;
    private static final int MOST_REGION_BYTES = 1024;
    private static final int MOST_REGIONS = 6;
    private static final int MOST_MEMORY_BYTES = 6144;
    private static final int MOST_FLAGS = 7;

    private static final int MOST_THREADS = 3;
    private static final int REGISTERS = 8;
    private static final int FRAME_REGISTER = 7;
    private static final int FRAME_BYTES = 8;

    private static final int MOST_FILE_BYTES = 6588;
    private static final int MOST_TAPE_BYTES = 8192;

    private static final int HEADER_BYTES = 52;
    // The number of program headers is the one field that differs from file to file; its place here holds 0.
    private static final int[] HEADER_VALUES = {
        127, 69, 76, 70, 1, 1, 1, 0, 0, 0, 0, 0, 0, 0, 0, 0, 4, 8, 1, 0, 52, 0, 0, 52, 32, 0, 0, 0, 0};
    private static final int[] HEADER_WIDTHS = {
        1, 1, 1, 1, 1, 1, 1, 1, 1, 1, 1, 1, 1, 1, 1, 1, 2, 2, 4, 4, 4, 4, 4, 2, 2, 2, 2, 2, 2};
    private static final int COUNT_FIELD = 25;
    private static final int COUNT_PLACE = 44;

    private static final int ENTRY_BYTES = 32;
    private static final int ENTRY_FIELDS = 8;
    private static final int KIND = 0;
    private static final int WHERE = 1;
    private static final int ADDRESS = 2;
    private static final int ZERO = 3;
    private static final int IN_FILE = 4;
    private static final int IN_MEMORY = 5;
    private static final int FLAGS = 6;
    private static final int ALIGNMENT = 7;
    private static final int NOTES_KIND = 4;
    private static final int REGION_KIND = 1;
    private static final int NOTES_ALIGNMENT = 4;
    private static final int REGION_ALIGNMENT = 64;

    private static final int[] NOTE_NAME = {67, 79, 82, 69, 0, 0, 0, 0};
    private static final int NOTE_NAME_LENGTH = 5;
    private static final int NOTE_NAME_PLACE = 12;
    private static final int NOTE_HEAD_BYTES = 20;
    private static final int NOTE_SIZE_PLACE = 4;
    private static final int NOTE_KIND_PLACE = 8;
    private static final int THREAD_KIND = 1;
    private static final int THREAD_BYTES = 36;

    private static final int TOO_SHORT = 1;
    private static final int WRONG_HEADER = 2;
    private static final int WRONG_FIELD = 3;
    private static final int SHARED_BYTES = 4;
    private static final int SHARED_ADDRESSES = 5;
    private static final int WRONG_NOTE = 6;

    private final Memory memory;
    private final ThreadTable threads;
    private final Row file;
    private final FileWriter writer;
    private final Row tape;
    private final TapeCheck check;
    private final Memory coreMemory;
    private final ThreadTable coreThreads;
    private boolean hasCore;

    public CoreDesk() {
        memory = new Memory();
        threads = new ThreadTable();
        file = new Row(MOST_FILE_BYTES);
        writer = new FileWriter(file, memory, threads);
        tape = new Row(MOST_TAPE_BYTES);
        check = new TapeCheck(tape);
        coreMemory = new Memory();
        coreThreads = new ThreadTable();
        hasCore = false;
    }

    public boolean map(int address, int pages, int flags) {
        if (pages < 1 || pages > MOST_PAGES) {
            return false;
        }
        return memory.addRegion(address, pages * PAGE, flags);
    }

    public boolean unmap(int address) {
        return memory.removeRegion(address);
    }

    public boolean poke(int address, int v) {
        return memory.writeByte(address, v);
    }

    public boolean pokeFour(int address, int v) {
        return memory.writeNumber(address, v);
    }

    public int thread(int id) {
        return threads.add(id);
    }

    public boolean set(int thread, int register, int v) {
        return threads.write(thread, register, v);
    }

    public int dump() {
        writer.writeFile();
        return file.length();
    }

    public int byteAt(int k) {
        return file.at(k);
    }

    public int copy() {
        tape.become(file);
        return tape.length();
    }

    public boolean put(int k, int v) {
        return k == tape.length() ? tape.append(v) : tape.change(k, v);
    }

    public boolean cut(int n) {
        return tape.shorten(n);
    }

    public int load() throws IllegalArgumentException {
        if (!check.passes()) {
            throw new IllegalArgumentException();
        }
        takeCore();
        return coreMemory.count();
    }

    public int error(int what) {
        if (what == 0) {
            return check.wrong();
        }
        return what == 1 ? check.place() : 0;
    }

    public int core(int what) {
        if (!hasCore) {
            return NONE;
        }
        if (what == 0) {
            return coreMemory.count();
        }
        return what == 1 ? coreThreads.count() : NONE;
    }

    public int peek(int address) {
        return coreMemory.readByte(address);
    }

    public int flags(int address) {
        return coreMemory.flagsAt(address);
    }

    public int register(int t, int register) throws IndexOutOfBoundsException {
        if (coreThreads.has(t)) {
            if (register == REGISTERS) {
                return coreThreads.id(t);
            }
            if (register >= 0 && register < REGISTERS) {
                return coreThreads.read(t, register);
            }
        }
        throw new IndexOutOfBoundsException();
    }

    public int find(int v, int from) {
        return coreMemory.search(v, from);
    }

    public int caller(int t, int i) {
        // Frames rise through mapped bytes, so no chain has more of them than the memory has bytes.
        if (!coreThreads.has(t) || i < 0 || i >= MOST_MEMORY_BYTES) {
            return NONE;
        }
        int frame = coreThreads.read(t, FRAME_REGISTER);
        int before = 0;
        for (int call = 0; call < i; call++) {
            if (!isFrame(frame, before)) {
                return NONE;
            }
            before = frame;
            frame = coreMemory.readNumber(frame);
        }
        return isFrame(frame, before) ? coreMemory.readNumber(frame + 4) : NONE;
    }

    private boolean isFrame(int frame, int before) {
        return frame > before && coreMemory.holds(frame, FRAME_BYTES);
    }

    private void takeCore() {
        coreMemory.clear();
        int end = check.entries();
        for (int entry = 1; entry < end; entry++) {
            int address = check.entryField(entry, ADDRESS);
            coreMemory.addRegion(address, check.entryField(entry, IN_MEMORY), check.entryField(entry, FLAGS));
            coreMemory.fillRegion(address, tape, check.entryField(entry, WHERE), check.entryField(entry, IN_FILE));
        }
        coreThreads.become(check.threadsFound());
        hasCore = true;
    }

    /** Bytes one behind another, up to a room that is made once. */
    private static final class Row {
        private final byte[] bytes;
        private int length;

        Row(int room) {
            bytes = new byte[room];
            length = 0;
        }

        int length() {
            return length;
        }

        int at(int k) {
            return k < 0 || k >= length ? NONE : bytes[k] & 255;
        }

        int number(int k, int width) {
            if (k < 0 || k > length - width) {
                return 0;
            }
            int value = 0;
            for (int i = width - 1; i >= 0; i--) {
                value = value << 8 | bytes[k + i] & 255;
            }
            return value;
        }

        boolean change(int k, int v) {
            if (k < 0 || k >= length) {
                return false;
            }
            bytes[k] = (byte) v;
            return true;
        }

        boolean append(int v) {
            if (length >= bytes.length) {
                return false;
            }
            bytes[length] = (byte) v;
            length++;
            return true;
        }

        void appendNumber(int v, int width) {
            int rest = v;
            for (int i = 0; i < width; i++) {
                append(rest);
                rest = rest >> 8;
            }
        }

        void appendBytes(byte[] from, int n) {
            if (n < 0 || n > from.length || n > bytes.length - length) {
                return;
            }
            System.arraycopy(from, 0, bytes, length, n);
            length += n;
        }

        void giveBytes(int k, byte[] to, int n) {
            if (k < 0 || n < 0 || n > to.length || k > length || n > length - k) {
                return;
            }
            System.arraycopy(bytes, k, to, 0, n);
        }

        boolean shorten(int n) {
            if (n < 0 || n > length) {
                return false;
            }
            length = n;
            return true;
        }

        void become(Row other) {
            length = 0;
            appendBytes(other.bytes, other.length);
        }
    }

    private static final class Region {
        private final byte[] bytes;
        private int address;
        private int size;
        private int permissions;

        Region() {
            bytes = new byte[MOST_REGION_BYTES];
            address = 0;
            size = 0;
            permissions = 0;
        }

        void begin(int newAddress, int newSize, int newPermissions) {
            address = newAddress;
            size = newSize;
            permissions = newPermissions;
            Arrays.fill(bytes, (byte) 0);
        }

        boolean has(int wanted) {
            // Both are addresses, thus not below 0, before they are subtracted.
            return wanted >= address && wanted - address < size;
        }

        int read(int offset) {
            return offset < 0 || offset >= bytes.length ? NONE : bytes[offset] & 255;
        }

        void write(int offset, int v) {
            if (offset >= 0 && offset < bytes.length) {
                bytes[offset] = (byte) v;
            }
        }

        /** The bytes of the pages up to the last one that is not all 0. */
        int usedBytes() {
            for (int offset = size - 1; offset >= 0; offset--) {
                if (read(offset) != 0) {
                    return (offset / PAGE + 1) * PAGE;
                }
            }
            return 0;
        }

        int search(int v, int from) {
            int first = from > address ? from - address : 0;
            for (int offset = first; offset <= size - 4; offset++) {
                if (numberAt(offset) == v) {
                    return address + offset;
                }
            }
            return NONE;
        }

        private int numberAt(int offset) {
            return read(offset) | read(offset + 1) << 8 | read(offset + 2) << 16 | read(offset + 3) << 24;
        }
    }

    /** Regions by addresses; those not in use stand behind the others and are used again. */
    private static final class Memory {
        private final Region[] regions;
        private int count;

        Memory() {
            regions = new Region[MOST_REGIONS];
            for (int i = 0; i < MOST_REGIONS; i++) {
                regions[i] = new Region();
            }
            count = 0;
        }

        int count() {
            return count;
        }

        void clear() {
            count = 0;
        }

        boolean addRegion(int address, int size, int permissions) {
            if (count >= MOST_REGIONS || !isSpan(address, size) || permissions < 0 || permissions > MOST_FLAGS) {
                return false;
            }
            int place = 0;
            for (int i = 0; i < count; i++) {
                if (overlap(address, size, regions[i].address, regions[i].size)) {
                    return false;
                }
                if (regions[i].address < address) {
                    place = i + 1;
                }
            }
            Region fresh = regions[count];
            for (int i = count; i > place; i--) {
                regions[i] = regions[i - 1];
            }
            regions[place] = fresh;
            fresh.begin(address, size, permissions);
            count++;
            return true;
        }

        boolean removeRegion(int address) {
            int place = indexOf(address);
            if (place == NONE || regions[place].address != address) {
                return false;
            }
            Region old = regions[place];
            for (int i = place; i < count - 1; i++) {
                regions[i] = regions[i + 1];
            }
            count--;
            regions[count] = old;
            return true;
        }

        void fillRegion(int address, Row from, int where, int n) {
            int place = indexOf(address);
            if (place != NONE) {
                from.giveBytes(where, regions[place].bytes, n);
            }
        }

        Region regionAt(int place) {
            return place < 0 || place >= count ? null : regions[place];
        }

        boolean holds(int address, int n) {
            // An address that wraps round is below 0, where no region is.
            for (int i = 0; i < n; i++) {
                if (indexOf(address + i) == NONE) {
                    return false;
                }
            }
            return true;
        }

        int readByte(int address) {
            int place = indexOf(address);
            return place == NONE ? NONE : regions[place].read(address - regions[place].address);
        }

        int readNumber(int address) {
            int value = 0;
            for (int i = 3; i >= 0; i--) {
                value = value << 8 | readByte(address + i);
            }
            return value;
        }

        int flagsAt(int address) {
            int place = indexOf(address);
            return place == NONE ? NONE : regions[place].permissions;
        }

        boolean writeByte(int address, int v) {
            int place = indexOf(address);
            if (place == NONE) {
                return false;
            }
            regions[place].write(address - regions[place].address, v);
            return true;
        }

        boolean writeNumber(int address, int v) {
            if (!holds(address, 4)) {
                return false;
            }
            for (int i = 0; i < 4; i++) {
                writeByte(address + i, v >> 8 * i);
            }
            return true;
        }

        int search(int v, int from) {
            for (int i = 0; i < count; i++) {
                int found = regions[i].search(v, from);
                if (found != NONE) {
                    return found;
                }
            }
            return NONE;
        }

        private int indexOf(int address) {
            for (int i = 0; i < count; i++) {
                if (regions[i].has(address)) {
                    return i;
                }
            }
            return NONE;
        }

        static boolean isSpan(int address, int size) {
            return address >= 0 && address % PAGE == 0
                && size >= PAGE && size <= MOST_REGION_BYTES && size % PAGE == 0
                && address <= LAST_ADDRESS - (size - 1);
        }

        /** For starts that are not below 0: their difference can't wrap round, their ends could. */
        static boolean overlap(int start, int size, int otherStart, int otherSize) {
            return size > 0 && otherSize > 0 && start - otherStart < otherSize && otherStart - start < size;
        }
    }

    /** Threads in the order in which they came; the registers of those to come are 0. */
    private static final class ThreadTable {
        private final int[] ids;
        private final int[] values;
        private int count;

        ThreadTable() {
            ids = new int[MOST_THREADS];
            values = new int[MOST_THREADS * REGISTERS];
            count = 0;
        }

        int count() {
            return count;
        }

        void clear() {
            count = 0;
            Arrays.fill(values, 0);
        }

        boolean has(int t) {
            return t >= 0 && t < count;
        }

        boolean hasId(int id) {
            for (int t = 0; t < count; t++) {
                if (ids[t] == id) {
                    return true;
                }
            }
            return false;
        }

        int add(int id) {
            if (count >= MOST_THREADS || hasId(id)) {
                return NONE;
            }
            ids[count] = id;
            count++;
            return count - 1;
        }

        int id(int t) {
            return has(t) ? ids[t] : 0;
        }

        int read(int t, int r) {
            return hasValue(t, r) ? values[t * REGISTERS + r] : 0;
        }

        boolean write(int t, int r, int v) {
            if (!hasValue(t, r)) {
                return false;
            }
            values[t * REGISTERS + r] = v;
            return true;
        }

        void become(ThreadTable other) {
            System.arraycopy(other.ids, 0, ids, 0, MOST_THREADS);
            System.arraycopy(other.values, 0, values, 0, MOST_THREADS * REGISTERS);
            count = other.count;
        }

        private boolean hasValue(int t, int r) {
            return has(t) && r >= 0 && r < REGISTERS;
        }
    }

    private static final class FileWriter {
        private final Row file;
        private final Memory memory;
        private final ThreadTable threads;

        FileWriter(Row file, Memory memory, ThreadTable threads) {
            this.file = file;
            this.memory = memory;
            this.threads = threads;
        }

        void writeFile() {
            file.shorten(0);
            writeHeader();
            writeEntries();
            for (int t = 0; t < threads.count(); t++) {
                writeNote(t);
            }
            for (int i = 0; i < memory.count(); i++) {
                Region region = memory.regionAt(i);
                if (region != null) {
                    file.appendBytes(region.bytes, region.usedBytes());
                }
            }
        }

        private int entries() {
            return memory.count() + 1;
        }

        private void writeHeader() {
            for (int field = 0; field < HEADER_VALUES.length && field < HEADER_WIDTHS.length; field++) {
                int value = field == COUNT_FIELD ? entries() : HEADER_VALUES[field];
                file.appendNumber(value, HEADER_WIDTHS[field]);
            }
        }

        private void writeEntries() {
            int where = HEADER_BYTES + entries() * ENTRY_BYTES;
            int noteBytes = threads.count() * (NOTE_HEAD_BYTES + THREAD_BYTES);
            writeNotesEntry(where, noteBytes);
            where += noteBytes;
            for (int i = 0; i < memory.count(); i++) {
                Region region = memory.regionAt(i);
                if (region != null) {
                    int used = region.usedBytes();
                    writeRegionEntry(where, region, used);
                    where += used;
                }
            }
        }

        private void writeNotesEntry(int where, int noteBytes) {
            writeFour(NOTES_KIND);
            writeFour(where);
            writeFour(0);
            writeFour(0);
            writeFour(noteBytes);
            writeFour(noteBytes);
            writeFour(0);
            writeFour(NOTES_ALIGNMENT);
        }

        private void writeRegionEntry(int where, Region region, int used) {
            writeFour(REGION_KIND);
            writeFour(where);
            writeFour(region.address);
            writeFour(0);
            writeFour(used);
            writeFour(region.size);
            writeFour(region.permissions);
            writeFour(REGION_ALIGNMENT);
        }

        private void writeNote(int t) {
            writeFour(NOTE_NAME_LENGTH);
            writeFour(THREAD_BYTES);
            writeFour(THREAD_KIND);
            for (int i = 0; i < NOTE_NAME.length; i++) {
                file.append(NOTE_NAME[i]);
            }
            writeFour(threads.id(t));
            for (int r = 0; r < REGISTERS; r++) {
                writeFour(threads.read(t, r));
            }
        }

        private void writeFour(int v) {
            file.appendNumber(v, 4);
        }
    }

    /** Looks for what is WRONG with the tape, and keeps the threads that its notes tell of. */
    private static final class TapeCheck {
        private final Row tape;
        private final ThreadTable found;
        private int wrong;
        private int place;

        TapeCheck(Row tape) {
            this.tape = tape;
            found = new ThreadTable();
            wrong = 0;
            place = 0;
        }

        int wrong() {
            return wrong;
        }

        int place() {
            return place;
        }

        ThreadTable threadsFound() {
            return found;
        }

        int entries() {
            return tape.number(COUNT_PLACE, 2);
        }

        int entryField(int entry, int field) {
            return tape.number(fieldPlace(entry, field), 4);
        }

        boolean passes() {
            wrong = 0;
            place = 0;
            found.clear();
            return headerPasses() && entriesPass() && notesPass();
        }

        private boolean refuse(int newWrong, int newPlace) {
            wrong = newWrong;
            place = newPlace;
            return false;
        }

        private int fieldPlace(int entry, int field) {
            return HEADER_BYTES + entry * ENTRY_BYTES + 4 * field;
        }

        private boolean headerPasses() {
            if (tape.length() < HEADER_BYTES) {
                return refuse(TOO_SHORT, tape.length());
            }
            int at = 0;
            for (int field = 0; field < HEADER_VALUES.length && field < HEADER_WIDTHS.length; field++) {
                if (!headerFieldFits(field, tape.number(at, HEADER_WIDTHS[field]))) {
                    return refuse(WRONG_HEADER, at);
                }
                at += HEADER_WIDTHS[field];
            }
            return fieldPlace(entries(), KIND) <= tape.length() || refuse(TOO_SHORT, tape.length());
        }

        private boolean headerFieldFits(int field, int value) {
            if (field == COUNT_FIELD) {
                return value >= 1 && value <= MOST_REGIONS + 1;
            }
            return field >= 0 && field < HEADER_VALUES.length && value == HEADER_VALUES[field];
        }

        private boolean entriesPass() {
            int end = entries();
            for (int entry = 0; entry < end; entry++) {
                if (!fieldsPass(entry) || !bytesPass(entry) || !addressesPass(entry)) {
                    return false;
                }
            }
            return true;
        }

        private boolean fieldsPass(int entry) {
            for (int field = 0; field < ENTRY_FIELDS; field++) {
                int value = entryField(entry, field);
                boolean fits = entry == 0 ? notesFieldFits(field, value) : regionFieldFits(entry, field, value);
                if (!fits) {
                    return refuse(WRONG_FIELD, fieldPlace(entry, field));
                }
            }
            return true;
        }

        private boolean notesFieldFits(int field, int value) {
            switch (field) {
                case KIND:
                    return value == NOTES_KIND;
                case WHERE:
                    return value >= fieldPlace(entries(), KIND);
                case IN_FILE:
                    return value >= 0;
                case IN_MEMORY:
                    return value == entryField(0, IN_FILE);
                case ALIGNMENT:
                    return value == NOTES_ALIGNMENT;
                default:
                    return value == 0;
            }
        }

        private boolean regionFieldFits(int entry, int field, int value) {
            switch (field) {
                case KIND:
                    return value == REGION_KIND;
                case WHERE:
                    return value >= fieldPlace(entries(), KIND);
                case ADDRESS:
                    return value >= 0 && value % PAGE == 0;
                case ZERO:
                    return value == 0;
                case IN_FILE:
                    return value >= 0 && value <= MOST_REGION_BYTES && value % PAGE == 0;
                case IN_MEMORY:
                    return Memory.isSpan(entryField(entry, ADDRESS), value) && value >= entryField(entry, IN_FILE);
                case FLAGS:
                    return value >= 0 && value <= MOST_FLAGS;
                default:
                    return value == REGION_ALIGNMENT;
            }
        }

        private boolean bytesPass(int entry) {
            int where = entryField(entry, WHERE);
            int n = entryField(entry, IN_FILE);
            if (where > tape.length() || n > tape.length() - where) {
                return refuse(TOO_SHORT, fieldPlace(entry, WHERE));
            }
            for (int other = 0; other < entry; other++) {
                if (Memory.overlap(where, n, entryField(other, WHERE), entryField(other, IN_FILE))) {
                    return refuse(SHARED_BYTES, fieldPlace(entry, WHERE));
                }
            }
            return true;
        }

        private boolean addressesPass(int entry) {
            int address = entryField(entry, ADDRESS);
            int size = entryField(entry, IN_MEMORY);
            // The first entry is that of the notes, whose bytes have no addresses.
            for (int other = 1; other < entry; other++) {
                if (Memory.overlap(address, size, entryField(other, ADDRESS), entryField(other, IN_MEMORY))) {
                    return refuse(SHARED_ADDRESSES, fieldPlace(entry, ADDRESS));
                }
            }
            return true;
        }

        private boolean notesPass() {
            int at = entryField(0, WHERE);
            int end = at + entryField(0, IN_FILE);
            // Each note has 20 bytes at least, so the notes end long before this count does.
            for (int note = 0; note < MOST_TAPE_BYTES && at < end; note++) {
                if (!noteHeadPasses(at, end) || !threadPasses(at)) {
                    return false;
                }
                at += NOTE_HEAD_BYTES + padded(noteSize(at));
            }
            return true;
        }

        private int noteSize(int at) {
            return tape.number(at + NOTE_SIZE_PLACE, 4);
        }

        private int padded(int n) {
            return (n + 3) / 4 * 4;
        }

        private boolean noteHeadPasses(int at, int end) {
            int room = end - at - NOTE_HEAD_BYTES;
            if (room < 0 || tape.number(at, 4) != NOTE_NAME_LENGTH) {
                return refuse(WRONG_NOTE, at);
            }
            for (int i = 0; i < NOTE_NAME.length; i++) {
                if (tape.at(at + NOTE_NAME_PLACE + i) != NOTE_NAME[i]) {
                    return refuse(WRONG_NOTE, at + NOTE_NAME_PLACE + i);
                }
            }
            int size = noteSize(at);
            // The size is held against the room before it is padded: a great one would wrap round.
            if (size < 0 || size > room || padded(size) > room) {
                return refuse(WRONG_NOTE, at + NOTE_SIZE_PLACE);
            }
            return true;
        }

        private boolean threadPasses(int at) {
            if (tape.number(at + NOTE_KIND_PLACE, 4) != THREAD_KIND) {
                return true;
            }
            if (noteSize(at) != THREAD_BYTES) {
                return refuse(WRONG_NOTE, at + NOTE_SIZE_PLACE);
            }
            int idPlace = at + NOTE_HEAD_BYTES;
            int id = tape.number(idPlace, 4);
            if (found.hasId(id)) {
                return refuse(WRONG_NOTE, idPlace);
            }
            int t = found.add(id);
            if (t == NONE) {
                return refuse(WRONG_NOTE, at);
            }
            for (int r = 0; r < REGISTERS; r++) {
                found.write(t, r, tape.number(idPlace + 4 + 4 * r, 4));
            }
            return true;
        }
    }
}
