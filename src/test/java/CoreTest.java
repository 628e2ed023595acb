/** Promises 15 to 20: the questions to a core. */
public final class CoreTest {
    private static final Due due = new Due();

    public static void main(String[] args) {
        cores();
        peeksAndFlags();
        oldBytesAreGone();
        registers();
        finds();
        findsInOneRegion();
        findsWhereTheFileHasAnotherOrder();
        findsInMoreAndFewerRegions();
        callers();
        callersAtEdges();
        callersOfManyFrames();
        due.end();
    }

    private static void reload(CoreDesk desk, int regions) {
        desk.dump();
        desk.copy();
        due.loads("load()", desk, regions);
    }

    private static void cores() {
        CoreDesk desk = new CoreDesk();
        desk.map(0, 1, 0);
        desk.map(64, 1, 0);
        desk.thread(1);
        due.same("core(0) without a core", desk.core(0), -1);
        due.same("core(1) without a core", desk.core(1), -1);
        reload(desk, 2);
        due.same("core(0)", desk.core(0), 2);
        due.same("core(1)", desk.core(1), 1);
        due.same("core(2)", desk.core(2), -1);
        due.same("core(-1)", desk.core(-1), -1);
        due.same("core(2147483647)", desk.core(2147483647), -1);
        CoreDesk empty = new CoreDesk();
        reload(empty, 0);
        due.same("core(0) of an empty core", empty.core(0), 0);
        due.same("core(1) of an empty core", empty.core(1), 0);
        due.same("core(2) of an empty core", empty.core(2), -1);
    }

    private static void peeksAndFlags() {
        CoreDesk desk = new CoreDesk();
        desk.map(128, 2, 4);
        desk.map(256, 1, 0);
        desk.poke(128, 128);
        desk.poke(255, 254);
        due.same("peek(128) without a core", desk.peek(128), -1);
        due.same("flags(128) without a core", desk.flags(128), -1);
        reload(desk, 2);
        due.same("peek(127)", desk.peek(127), -1);
        due.same("peek(128)", desk.peek(128), 128);
        due.same("peek(129)", desk.peek(129), 0);
        due.same("peek(255)", desk.peek(255), 254);
        due.same("peek(256), a page that is not in the file", desk.peek(256), 0);
        due.same("peek(319)", desk.peek(319), 0);
        due.same("peek(320)", desk.peek(320), -1);
        due.same("peek(-1)", desk.peek(-1), -1);
        due.same("peek(-2147483648)", desk.peek(-2147483648), -1);
        due.same("peek(2147483647)", desk.peek(2147483647), -1);
        due.same("flags(127)", desk.flags(127), -1);
        due.same("flags(128)", desk.flags(128), 4);
        due.same("flags(255)", desk.flags(255), 4);
        due.same("flags(256)", desk.flags(256), 0);
        due.same("flags(319)", desk.flags(319), 0);
        due.same("flags(320)", desk.flags(320), -1);
        due.same("flags(-1)", desk.flags(-1), -1);
        due.same("flags(-2147483648)", desk.flags(-2147483648), -1);
        desk.poke(128, 1);
        due.same("the core is not the process", desk.peek(128), 128);
    }

    private static void oldBytesAreGone() {
        CoreDesk desk = new CoreDesk();
        desk.map(0, 16, 1);
        for (int page = 0; page < 16; page++) {
            desk.pokeFour(64 * page + 60, -1);
        }
        reload(desk, 1);
        desk.unmap(0);
        desk.map(0, 16, 2);
        desk.poke(0, 1);
        reload(desk, 1);
        for (int page = 0; page < 16; page++) {
            due.same("page " + page, desk.peek(64 * page + 63), 0);
        }
        due.same("flags(0)", desk.flags(0), 2);
    }

    private static void registers() {
        CoreDesk desk = new CoreDesk();
        desk.thread(-7);
        desk.thread(40);
        desk.set(0, 0, 1);
        desk.set(1, 0, 2);
        desk.set(1, 7, -3);
        due.noRegister(desk, 0, 0);
        reload(desk, 0);
        due.register(desk, 0, 0, 1);
        due.register(desk, 0, 7, 0);
        due.register(desk, 0, 8, -7);
        due.register(desk, 1, 0, 2);
        due.register(desk, 1, 7, -3);
        due.register(desk, 1, 8, 40);
        int[] none = {-2147483648, -1, 9, 2147483647};
        for (int r : none) {
            due.noRegister(desk, 0, r);
            due.noRegister(desk, 1, r);
        }
        int[] noThread = {-2147483648, -1, 2, 3, 2147483647};
        for (int t : noThread) {
            due.noRegister(desk, t, 0);
            due.noRegister(desk, t, 8);
        }
    }

    private static void finds() {
        CoreDesk desk = new CoreDesk();
        desk.map(640, 2, 0);
        desk.map(64, 1, 0);
        desk.pokeFour(64, 0x01020304);
        desk.pokeFour(100, 0x81020304);
        desk.pokeFour(640, 0x01020304);
        desk.pokeFour(764, 0x01020304);
        due.same("find without a core", desk.find(0, 0), -1);
        reload(desk, 2);
        due.same("from 0", desk.find(0x01020304, 0), 64);
        due.same("from -1", desk.find(0x01020304, -1), 64);
        due.same("from the least", desk.find(0x01020304, -2147483648), 64);
        due.same("from it", desk.find(0x01020304, 64), 64);
        due.same("from behind it", desk.find(0x01020304, 65), 640);
        due.same("from between", desk.find(0x01020304, 300), 640);
        due.same("from the second", desk.find(0x01020304, 641), 764);
        due.same("from the last", desk.find(0x01020304, 764), 764);
        due.same("from behind the last", desk.find(0x01020304, 765), -1);
        due.same("from the end", desk.find(0x01020304, 768), -1);
        due.same("from the greatest", desk.find(0x01020304, 2147483647), -1);
        due.same("the highest bit", desk.find(0x81020304, 0), 100);
        due.same("at no multiple of four", desk.find(0x00010203, 0), 65);
        due.same("zeros", desk.find(0, 0), 68);
        due.same("zeros from 125", desk.find(0, 125), 644);
        due.same("zeros from 124", desk.find(0, 124), 124);
        due.same("nowhere", desk.find(0x04030201, 0), -1);
    }

    private static void findsInOneRegion() {
        CoreDesk desk = new CoreDesk();
        desk.map(64, 1, 0);
        desk.map(128, 1, 0);
        desk.pokeFour(126, 0x11223344);
        reload(desk, 2);
        due.same("over two regions", desk.find(0x11223344, 0), -1);
        due.same("peek(126)", desk.peek(126), 0x44);
        due.same("peek(129)", desk.peek(129), 0x11);
        desk.map(2147483584, 1, 0);
        desk.pokeFour(2147483644, 0x55667788);
        reload(desk, 3);
        due.same("the last four", desk.find(0x55667788, 0), 2147483644);
        due.same("from them", desk.find(0x55667788, 2147483644), 2147483644);
        due.same("from behind", desk.find(0x55667788, 2147483645), -1);
        due.same("from the last", desk.find(0, 2147483647), -1);
    }

    private static void findsWhereTheFileHasAnotherOrder() {
        Bytes b = new Bytes().header(3).notesEntry(148, 0);
        b.regionEntry(148, 6400, 64, 64, 0).regionEntry(212, 64, 64, 64, 0);
        b.four(99).zeros(60).zeros(8).four(99).zeros(52);
        CoreDesk desk = b.onNewDesk();
        due.loads("load()", desk, 2);
        due.same("the least", desk.find(99, 0), 72);
        due.same("the other", desk.find(99, 73), 6400);
    }

    private static void findsInMoreAndFewerRegions() {
        CoreDesk desk = new CoreDesk();
        for (int i = 0; i < 6; i++) {
            desk.map(1024 * i, 1, 0);
        }
        desk.pokeFour(1024 * 5 + 8, 77);
        reload(desk, 6);
        due.same("in the sixth", desk.find(77, 0), 1024 * 5 + 8);
        due.same("in none of six", desk.find(78, 0), -1);
        for (int i = 0; i < 5; i++) {
            desk.unmap(1024 * i);
        }
        desk.pokeFour(1024 * 5 + 8, 79);
        reload(desk, 1);
        due.same("in the one", desk.find(79, 0), 1024 * 5 + 8);
        due.same("in a core that was", desk.find(77, 0), -1);
        due.same("in a region that was", desk.find(0, 1024 * 5 + 61), -1);
    }

    private static void callers() {
        CoreDesk desk = new CoreDesk();
        desk.map(64, 1, 0);
        desk.map(128, 1, 0);
        desk.map(1024, 1, 0);
        desk.thread(1);
        desk.thread(2);
        desk.set(0, 7, 65);
        frame(desk, 65, 80, 500);
        frame(desk, 80, 124, -9);
        frame(desk, 124, 1080, 502);
        frame(desk, 1080, 1081, 503);
        due.same("caller without a core", desk.caller(0, 0), -1);
        reload(desk, 3);
        due.same("call 0", desk.caller(0, 0), 500);
        due.same("call 1", desk.caller(0, 1), -9);
        due.same("call 2, over two regions", desk.caller(0, 2), 502);
        due.same("call 3, the last eight bytes", desk.caller(0, 3), 503);
        due.same("call 4, a byte beyond", desk.caller(0, 4), -1);
        due.same("call 5", desk.caller(0, 5), -1);
        due.same("a great call", desk.caller(0, 2147483647), -1);
        due.same("call -1", desk.caller(0, -1), -1);
        due.same("the least call", desk.caller(0, -2147483648), -1);
        due.same("a frame at 0", desk.caller(1, 0), -1);
        due.same("thread 2", desk.caller(2, 0), -1);
        due.same("thread -1", desk.caller(-1, 0), -1);
        due.same("thread 2147483647", desk.caller(2147483647, 0), -1);
    }

    private static void frame(CoreDesk desk, int f, int next, int back) {
        due.yes("frame " + f, desk.pokeFour(f, next) && desk.pokeFour(f + 4, back));
    }

    private static void callersAtEdges() {
        CoreDesk desk = new CoreDesk();
        desk.map(0, 2, 0);
        desk.map(2147483584, 1, 0);
        desk.thread(1);
        desk.thread(2);
        desk.thread(3);
        frame(desk, 0, 8, 600);
        frame(desk, 8, 8, 601);
        frame(desk, 16, -2147483648, 602);
        frame(desk, 24, 2147483640, 603);
        frame(desk, 2147483640, 2147483641, 604);
        frame(desk, 32, 0, 605);
        frame(desk, 40, 32, 606);
        int[] frames = {0, 8, 16, 24, 32, 40, 120, 121, -8, 2147483640, 2147483641, 2147483647, 1};
        int[] first = {-1, 601, 602, 603, 605, 606, 0, -1, -1, 604, -1, -1, 0};
        int[] second = {-1, -1, -1, 604, -1, -1, -1, -1, -1, -1, -1, -1, -1};
        for (int k = 0; k < frames.length; k++) {
            desk.set(1, 7, frames[k]);
            reload(desk, 2);
            int back = frames[k] == 1 ? 8 << 24 | 600 >> 8 : first[k];
            due.same("call 0 from " + frames[k], desk.caller(1, 0), back);
            due.same("call 1 from " + frames[k], desk.caller(1, 1), second[k]);
            due.same("call 2 from " + frames[k], desk.caller(1, 2), -1);
        }
    }

    private static void callersOfManyFrames() {
        CoreDesk desk = new CoreDesk();
        desk.map(1024, 16, 0);
        desk.thread(1);
        desk.set(0, 7, 1024);
        for (int f = 1024; f < 2048; f += 4) {
            desk.pokeFour(f, f + 4);
        }
        reload(desk, 1);
        due.same("call 0", desk.caller(0, 0), 1032);
        due.same("call 253", desk.caller(0, 253), 2044);
        due.same("call 254", desk.caller(0, 254), 2048);
        due.same("call 255", desk.caller(0, 255), -1);
    }
}
