/** Promises 8 to 12: the file byte by byte, and the tape. */
public final class FileTest {
    private static final Due due = new Due();

    public static void main(String[] args) {
        emptyProcess();
        threadsAlone();
        regionsByAddresses();
        pagesThatAreZero();
        greatestFile();
        latestFile();
        copies();
        puts();
        cuts();
        due.end();
    }

    private static void sameFile(String name, CoreDesk desk, Bytes want) {
        due.same(name + ": dump()", desk.dump(), want.length());
        for (int k = 0; k < want.length(); k++) {
            due.same(name + ": byteAt(" + k + ")", desk.byteAt(k), want.at(k));
        }
        due.same(name + ": behind the last", desk.byteAt(want.length()), -1);
        due.same(name + ": byteAt(-1)", desk.byteAt(-1), -1);
        due.same(name + ": byteAt(2147483647)", desk.byteAt(2147483647), -1);
        due.same(name + ": byteAt(-2147483648)", desk.byteAt(-2147483648), -1);
    }

    private static void emptyProcess() {
        sameFile("empty", new CoreDesk(), new Bytes().header(1).notesEntry(84, 0));
    }

    private static void threadsAlone() {
        CoreDesk desk = new CoreDesk();
        desk.thread(0x01020304);
        desk.thread(-1);
        desk.thread(1);
        desk.set(0, 0, 0x80FF7F01);
        desk.set(0, 7, 64);
        desk.set(1, 3, -2);
        Bytes want = new Bytes().header(1).notesEntry(84, 168);
        want.threadNote(0x01020304, 0x80FF7F01, 0, 0, 0, 0, 0, 0, 64);
        want.threadNote(-1, 0, 0, 0, -2).threadNote(1);
        sameFile("threads", desk, want);
    }

    private static void regionsByAddresses() {
        CoreDesk desk = new CoreDesk();
        desk.map(2147483584, 1, 7);
        desk.map(64, 1, 1);
        desk.map(1024, 2, 6);
        desk.thread(9);
        desk.poke(2147483647, 200);
        desk.poke(64, 201);
        desk.pokeFour(1025, 0x0A0B0C0D);
        Bytes want = new Bytes().header(4).notesEntry(180, 56);
        want.regionEntry(236, 64, 64, 64, 1).regionEntry(300, 1024, 64, 128, 6);
        want.regionEntry(364, 2147483584, 64, 64, 7).threadNote(9);
        want.one(201).zeros(63);
        want.one(0, 0x0D, 0x0C, 0x0B, 0x0A).zeros(59);
        want.zeros(63).one(200);
        sameFile("regions", desk, want);
    }

    private static void pagesThatAreZero() {
        CoreDesk desk = new CoreDesk();
        desk.map(0, 3, 0);
        desk.map(192, 2, 1);
        desk.map(320, 2, 2);
        desk.poke(127, 5);
        desk.poke(383, 6);
        desk.poke(320, 0);
        Bytes want = new Bytes().header(4).notesEntry(180, 0);
        want.regionEntry(180, 0, 128, 192, 0).regionEntry(308, 192, 0, 128, 1);
        want.regionEntry(308, 320, 64, 128, 2);
        want.zeros(127).one(5).zeros(63).one(6);
        sameFile("zero pages", desk, want);
        desk.poke(128, 1);
        due.same("the first byte of a page", desk.dump(), 180 + 192 + 64);
        desk.poke(128, 0);
        desk.poke(127, 0);
        desk.poke(383, 256);
        due.same("all 0 again", desk.dump(), 180);
    }

    private static void greatestFile() {
        CoreDesk desk = new CoreDesk();
        for (int i = 0; i < 6; i++) {
            desk.map(2048 * i, 16, 0);
            desk.poke(2048 * i + 1023, 1 + i);
        }
        for (int i = 0; i < 3; i++) {
            desk.thread(i);
        }
        due.same("the greatest file", desk.dump(), 6588);
        due.same("its last byte", desk.byteAt(6587), 6);
        due.same("behind it", desk.byteAt(6588), -1);
        due.same("its copy", desk.copy(), 6588);
        due.loads("its load", desk, 6);
        for (int i = 0; i < 6; i++) {
            due.same("the last byte of region " + i, desk.peek(2048 * i + 1023), 1 + i);
        }
    }

    private static void latestFile() {
        CoreDesk desk = new CoreDesk();
        desk.map(64, 1, 0);
        desk.poke(64, 1);
        due.same("dump()", desk.dump(), 180);
        desk.poke(64, 2);
        due.same("the file stays", desk.byteAt(116), 1);
        desk.unmap(64);
        due.same("it still stays", desk.byteAt(116), 1);
        due.same("a shorter one", desk.dump(), 84);
        due.same("nothing of the longer one", desk.byteAt(84), -1);
        desk.put(0, 1);
        due.same("the tape is not the file", desk.byteAt(0), 127);
    }

    private static void copies() {
        CoreDesk desk = new CoreDesk();
        desk.put(0, 1);
        due.same("copy() without a file", desk.copy(), 0);
        due.no("the tape has no byte then", desk.cut(1));
        desk.thread(3);
        desk.dump();
        due.same("copy()", desk.copy(), 140);
        due.loads("load()", desk, 0);
        due.register(desk, 0, 8, 3);
        desk.put(140, 1);
        desk.put(0, 0);
        due.same("copy() again", desk.copy(), 140);
        due.no("it is no longer", desk.cut(141));
        due.loads("load() again", desk, 0);
        desk.thread(4);
        due.same("copy() of the latest file", desk.copy(), 140);
    }

    private static void puts() {
        CoreDesk desk = new CoreDesk();
        due.no("put(-1, 1)", desk.put(-1, 1));
        due.no("put(1, 1)", desk.put(1, 1));
        due.no("put(2147483647, 1)", desk.put(2147483647, 1));
        due.no("put(-2147483648, 1)", desk.put(-2147483648, 1));
        Bytes small = new Bytes().header(1).notesEntry(84, 0);
        for (int k = 0; k < small.length(); k++) {
            due.yes("put(" + k + ")", desk.put(k, small.at(k) - 256));
        }
        due.no("put(85, 0)", desk.put(85, 0));
        due.loads("the bytes that were put", desk, 0);
        due.yes("put(1, 70)", desk.put(1, 70));
        due.refuses("a byte that was changed", desk, 2, 1);
        due.yes("put(1, 69 + 512)", desk.put(1, 69 + 512));
        due.loads("mended", desk, 0);
        due.yes("put(84, 1)", desk.put(84, 1));
        due.yes("one longer", desk.cut(85));
        due.no("not two", desk.cut(86));
    }

    private static void cuts() {
        CoreDesk desk = new CoreDesk();
        desk.dump();
        desk.copy();
        due.no("cut(-1)", desk.cut(-1));
        due.no("cut(-2147483648)", desk.cut(-2147483648));
        due.no("cut(85)", desk.cut(85));
        due.no("cut(2147483647)", desk.cut(2147483647));
        due.yes("cut(84)", desk.cut(84));
        due.loads("all of it", desk, 0);
        due.yes("cut(83)", desk.cut(83));
        due.no("cut(84) now", desk.cut(84));
        due.refuses("one less", desk, 1, 83);
        due.no("put(84, 0)", desk.put(84, 0));
        due.yes("put(83, 0)", desk.put(83, 0));
        due.yes("cut(0)", desk.cut(0));
        due.refuses("none", desk, 1, 0);
        due.same("the file stays", desk.byteAt(83), 0);
    }
}
