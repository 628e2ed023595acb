/** Promises 1 to 7: what is put into a process shows in the core that its file is read to. */
public final class ProcessTest {
    private static final Due due = new Due();

    public static void main(String[] args) {
        newObject();
        mapEdges();
        mapLast();
        mapOverlaps();
        mapSix();
        unmapRegions();
        mapAgainIsEmpty();
        pokeBytes();
        pokeNumbers();
        threads();
        registers();
        due.end();
    }

    private static void reload(CoreDesk desk, int regions) {
        desk.dump();
        desk.copy();
        due.loads("load()", desk, regions);
    }

    private static void newObject() {
        CoreDesk desk = new CoreDesk();
        due.same("NONE", CoreDesk.NONE, -1);
        due.same("new: byteAt(0)", desk.byteAt(0), -1);
        due.same("new: core(0)", desk.core(0), -1);
        due.same("new: core(1)", desk.core(1), -1);
        due.same("new: error(0)", desk.error(0), 0);
        due.same("new: error(1)", desk.error(1), 0);
        due.same("new: peek(0)", desk.peek(0), -1);
        due.same("new: flags(0)", desk.flags(0), -1);
        due.same("new: find(0, 0)", desk.find(0, 0), -1);
        due.same("new: caller(0, 0)", desk.caller(0, 0), -1);
        due.noRegister(desk, 0, 0);
        due.noRegister(desk, 0, 8);
        due.no("new: unmap(0)", desk.unmap(0));
        due.no("new: poke(0, 0)", desk.poke(0, 0));
        due.no("new: pokeFour(0, 0)", desk.pokeFour(0, 0));
        due.no("new: set(0, 0, 0)", desk.set(0, 0, 0));
        due.same("new: copy()", desk.copy(), 0);
        due.yes("new: cut(0)", desk.cut(0));
        due.no("new: cut(1)", desk.cut(1));
        due.refuses("new: load()", desk, 1, 0);
        due.same("new: dump()", desk.dump(), 84);
        CoreDesk other = new CoreDesk();
        other.map(0, 1, 0);
        due.no("objects share nothing", desk.poke(0, 1));
    }

    private static void mapEdges() {
        CoreDesk desk = new CoreDesk();
        due.no("map(1, 1, 0)", desk.map(1, 1, 0));
        due.no("map(63, 1, 0)", desk.map(63, 1, 0));
        due.no("map(32, 1, 0)", desk.map(32, 1, 0));
        due.no("map(-64, 1, 0)", desk.map(-64, 1, 0));
        due.no("map(-64, 2, 0)", desk.map(-64, 2, 0));
        due.no("map(-2147483648, 1, 0)", desk.map(-2147483648, 1, 0));
        due.no("map(0, 0, 0)", desk.map(0, 0, 0));
        due.no("map(0, -1, 0)", desk.map(0, -1, 0));
        due.no("map(0, 17, 0)", desk.map(0, 17, 0));
        due.no("map(0, 67108865, 0)", desk.map(0, 67108865, 0));
        due.no("map(0, 2147483647, 0)", desk.map(0, 2147483647, 0));
        due.no("map(0, -2147483648, 0)", desk.map(0, -2147483648, 0));
        due.no("map(0, 1, -1)", desk.map(0, 1, -1));
        due.no("map(0, 1, 8)", desk.map(0, 1, 8));
        due.same("nothing was mapped", desk.dump(), 84);
        due.yes("map(0, 16, 7)", desk.map(0, 16, 7));
        due.yes("map(1024, 1, 0)", desk.map(1024, 1, 0));
        reload(desk, 2);
        due.same("flags(0)", desk.flags(0), 7);
        due.same("flags(1023)", desk.flags(1023), 7);
        due.same("flags(1024)", desk.flags(1024), 0);
        due.same("flags(1087)", desk.flags(1087), 0);
        due.same("flags(1088)", desk.flags(1088), -1);
    }

    private static void mapLast() {
        CoreDesk desk = new CoreDesk();
        due.no("map(2147483584, 2, 1)", desk.map(2147483584, 2, 1));
        due.no("map(2147482688, 16, 1)", desk.map(2147482688, 16, 1));
        due.yes("map(2147482624, 16, 1)", desk.map(2147482624, 16, 1));
        due.no("map(2147483584, 1, 1)", desk.map(2147483584, 1, 1));
        due.yes("poke(2147483647, 9)", desk.poke(2147483647, 9));
        due.yes("pokeFour(2147483643, -1)", desk.pokeFour(2147483643, -1));
        due.no("pokeFour(2147483645, 1)", desk.pokeFour(2147483645, 1));
        reload(desk, 1);
        due.same("peek(2147483647)", desk.peek(2147483647), 9);
        due.same("peek(2147483646)", desk.peek(2147483646), 255);
        due.same("peek(-2147483648)", desk.peek(-2147483648), -1);
        due.same("find(167772159, 0)", desk.find(167772159, 0), 2147483644);
    }

    private static void mapOverlaps() {
        CoreDesk desk = new CoreDesk();
        due.yes("map(640, 3, 0)", desk.map(640, 3, 0));
        due.no("the same", desk.map(640, 3, 0));
        due.no("inside", desk.map(704, 1, 0));
        due.no("round it", desk.map(576, 6, 0));
        due.no("over its first page", desk.map(576, 2, 0));
        due.no("over its last page", desk.map(768, 2, 0));
        due.yes("just before", desk.map(576, 1, 0));
        due.yes("just behind", desk.map(832, 1, 0));
        due.same("three regions", desk.dump(), 52 + 4 * 32);
    }

    private static void mapSix() {
        CoreDesk desk = new CoreDesk();
        for (int i = 0; i < 6; i++) {
            due.yes("map " + i, desk.map(1024 * i, 1, i));
        }
        due.no("a seventh", desk.map(8192, 1, 0));
        due.yes("unmap(2048)", desk.unmap(2048));
        due.yes("a sixth again", desk.map(8192, 1, 6));
        due.no("a seventh again", desk.map(2048, 1, 0));
        reload(desk, 6);
        due.same("flags(2048)", desk.flags(2048), -1);
        due.same("flags(8192)", desk.flags(8192), 6);
    }

    private static void unmapRegions() {
        CoreDesk desk = new CoreDesk();
        desk.map(64, 2, 1);
        desk.map(192, 1, 2);
        desk.map(0, 1, 3);
        due.no("unmap(65)", desk.unmap(65));
        due.no("unmap(128)", desk.unmap(128));
        due.no("unmap(256)", desk.unmap(256));
        due.no("unmap(-64)", desk.unmap(-64));
        due.yes("unmap(64)", desk.unmap(64));
        due.no("unmap(64) again", desk.unmap(64));
        due.no("poke(64, 1)", desk.poke(64, 1));
        due.yes("poke(0, 1)", desk.poke(0, 1));
        due.yes("poke(192, 2)", desk.poke(192, 2));
        reload(desk, 2);
        due.same("flags(0)", desk.flags(0), 3);
        due.same("flags(64)", desk.flags(64), -1);
        due.same("flags(192)", desk.flags(192), 2);
        due.same("peek(0)", desk.peek(0), 1);
        due.same("peek(192)", desk.peek(192), 2);
    }

    private static void mapAgainIsEmpty() {
        CoreDesk desk = new CoreDesk();
        desk.map(64, 2, 1);
        desk.pokeFour(124, -1);
        desk.pokeFour(128, -1);
        desk.unmap(64);
        due.yes("map(0, 16, 2)", desk.map(0, 16, 2));
        due.same("its bytes are 0", desk.dump(), 52 + 2 * 32);
    }

    private static void pokeBytes() {
        CoreDesk desk = new CoreDesk();
        desk.map(128, 1, 0);
        due.no("poke(127, 1)", desk.poke(127, 1));
        due.no("poke(192, 1)", desk.poke(192, 1));
        due.no("poke(-1, 1)", desk.poke(-1, 1));
        due.no("poke(-2147483648, 1)", desk.poke(-2147483648, 1));
        due.no("poke(2147483647, 1)", desk.poke(2147483647, 1));
        due.yes("poke(128, 511)", desk.poke(128, 511));
        due.yes("poke(129, -256)", desk.poke(129, -256));
        due.yes("poke(130, -1)", desk.poke(130, -1));
        due.yes("poke(130, 7)", desk.poke(130, 7));
        due.yes("poke(191, 128)", desk.poke(191, 128));
        reload(desk, 1);
        due.same("peek(128)", desk.peek(128), 255);
        due.same("peek(129)", desk.peek(129), 0);
        due.same("peek(130)", desk.peek(130), 7);
        due.same("peek(191)", desk.peek(191), 128);
    }

    private static void pokeNumbers() {
        CoreDesk desk = new CoreDesk();
        desk.map(64, 1, 0);
        desk.map(128, 1, 0);
        due.yes("pokeFour(64, 0x04030201)", desk.pokeFour(64, 0x04030201));
        due.yes("over two regions", desk.pokeFour(126, 0xF4F3F2F1));
        due.yes("the last four", desk.pokeFour(188, 0x0D0C0B0A));
        for (int k = 1; k < 4; k++) {
            due.no("before the first by " + k, desk.pokeFour(64 - k, -1));
            due.no("behind the last by " + k, desk.pokeFour(188 + k, -1));
        }
        due.no("pokeFour(-2, -1)", desk.pokeFour(-2, -1));
        due.no("pokeFour(2147483647, -1)", desk.pokeFour(2147483647, -1));
        due.no("pokeFour(-2147483648, -1)", desk.pokeFour(-2147483648, -1));
        reload(desk, 2);
        for (int k = 0; k < 4; k++) {
            due.same("byte " + k, desk.peek(64 + k), 1 + k);
            due.same("byte " + k + " of two regions", desk.peek(126 + k), 0xF1 + k);
            due.same("byte " + k + " of the last", desk.peek(188 + k), 10 + k);
        }
        due.same("peek(68)", desk.peek(68), 0);
        due.same("peek(187)", desk.peek(187), 0);
    }

    private static void threads() {
        CoreDesk desk = new CoreDesk();
        due.same("thread(0)", desk.thread(0), 0);
        due.same("thread(0) again", desk.thread(0), -1);
        due.same("thread(-2147483648)", desk.thread(-2147483648), 1);
        due.same("thread(-2147483648) again", desk.thread(-2147483648), -1);
        due.same("thread(2147483647)", desk.thread(2147483647), 2);
        due.same("a fourth", desk.thread(5), -1);
        due.same("thread(0) once more", desk.thread(0), -1);
        reload(desk, 0);
        due.same("core(1)", desk.core(1), 3);
        due.register(desk, 0, 8, 0);
        due.register(desk, 1, 8, -2147483648);
        due.register(desk, 2, 8, 2147483647);
        for (int t = 0; t < 3; t++) {
            for (int r = 0; r < 8; r++) {
                due.register(desk, t, r, 0);
            }
        }
    }

    private static void registers() {
        CoreDesk desk = new CoreDesk();
        due.no("no thread yet", desk.set(0, 0, 1));
        desk.thread(11);
        desk.thread(12);
        due.no("set(-1, 0, 1)", desk.set(-1, 0, 1));
        due.no("set(2, 0, 1)", desk.set(2, 0, 1));
        due.no("set(0, -1, 1)", desk.set(0, -1, 1));
        due.no("set(0, 8, 1)", desk.set(0, 8, 1));
        due.no("set(1, -8, 1)", desk.set(1, -8, 1));
        due.no("set(2147483647, 0, 1)", desk.set(2147483647, 0, 1));
        due.no("set(0, 2147483647, 1)", desk.set(0, 2147483647, 1));
        due.no("set(0, -2147483648, 1)", desk.set(0, -2147483648, 1));
        for (int r = 0; r < 8; r++) {
            due.yes("set(0, " + r + ")", desk.set(0, r, 100 + r));
            due.yes("set(1, " + r + ")", desk.set(1, r, -1 - r));
        }
        due.yes("set(0, 0, -2147483648)", desk.set(0, 0, -2147483648));
        reload(desk, 0);
        due.register(desk, 0, 0, -2147483648);
        for (int r = 1; r < 8; r++) {
            due.register(desk, 0, r, 100 + r);
            due.register(desk, 1, r, -1 - r);
        }
        due.register(desk, 0, 8, 11);
        due.register(desk, 1, 8, 12);
    }
}
