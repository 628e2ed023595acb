/** The questions to a core, promises 15 to 20. */
public final class CoreTest extends Sentences {
    public static void main(String[] args) {
        new CoreTest().run();
    }

    @Override
    void tests() {
        core();
        peek();
        flags();
        register();
        find();
        caller();
    }

    private void core() {
        sentence("Promise 15: what 0: how many regions", this::coreRegions);
        sentence("Promise 15: what 1: threads", this::coreThreads);
        sentence("Promise 15: NONE without a core", this::coreWithout);
        sentence("Promise 15: NONE for another what", this::coreOfAnother);
    }

    private void coreRegions() {
        Desk desk = desk();
        desk.reload(0);
        desk.core(0).is(0);
        for (int i = 0; i < 6; i++) {
            desk.map(1024 * i, 1, 0).yes();
            desk.core(0).is(i);
            desk.reload(i + 1);
            desk.core(0).is(i + 1);
        }
        desk.unmap(0).yes();
        desk.core(0).is(6);
        desk.reload(5);
        desk.core(0).is(5);
    }

    private void coreThreads() {
        Desk desk = desk();
        desk.reload(0);
        desk.core(1).is(0);
        for (int t = 0; t < 3; t++) {
            desk.thread(t).is(t);
            desk.core(1).is(t);
            desk.reload(0);
            desk.core(1).is(t + 1);
        }
    }

    private void coreWithout() {
        Desk desk = desk();
        desk.map(64, 1, 0).yes();
        desk.thread(1).is(0);
        desk.dump().is(172);
        desk.copy().is(172);
        int[] whats = {0, 1, 2, -1, LAST, LEAST};
        for (int what : whats) {
            desk.core(what).none();
        }
        desk.put(0, 0).yes();
        desk.wrong(2, 0);
        desk.core(0).none();
        desk.core(1).none();
    }

    private void coreOfAnother() {
        Desk desk = desk();
        desk.reload(0);
        int[] whats = {-1, 2, 3, 256, 257, LAST, LEAST, LEAST + 1};
        for (int what : whats) {
            desk.core(what).none();
        }
        desk.core(0).is(0);
        unchanged(Sentences::busy, d -> d.core(0), 2);
        unchanged(Sentences::busy, d -> d.core(2), -1);
    }

    private void peek() {
        sentence("Promise 16: the byte at an address, 0 .. 255", this::peekBytes);
        sentence("Promise 16: NONE if it is in no region", this::peekNone);
        sentence("Promise 16: pages that are not in the file are 0", this::peekZeros);
        sentence("Promise 16: the first address and the last", this::peekFirstAndLast);
    }

    private void peekBytes() {
        Desk desk = desk();
        desk.map(128, 2, 4).yes();
        int[] values = {0, 1, 127, 128, 254, 255};
        for (int i = 0; i < values.length; i++) {
            desk.poke(128 + i, values[i]).yes();
            desk.poke(255 - i, values[i]).yes();
        }
        desk.reload(1);
        for (int i = 0; i < values.length; i++) {
            desk.peek(128 + i).is(values[i]);
            desk.peek(255 - i).is(values[i]);
        }
        desk.poke(128, 9).yes();
        desk.peek(128).is(0);
    }

    private void peekNone() {
        Desk desk = desk();
        desk.map(128, 1, 4).yes();
        desk.map(256, 1, 0).yes();
        desk.poke(128, 7).yes();
        desk.peek(128).none();
        desk.reload(2);
        desk.peek(128).is(7);
        desk.peek(191).is(0);
        desk.peek(256).is(0);
        desk.peek(319).is(0);
        int[] none = {127, 192, 255, 320, 0, -1, -128, LEAST, LEAST + 128, LAST};
        for (int address : none) {
            desk.peek(address).none();
        }
        unchanged(Sentences::busy, d -> d.peek(63), -1);
        unchanged(Sentences::busy, d -> d.peek(64), 200);
    }

    private void peekZeros() {
        Desk desk = desk();
        desk.map(0, 16, 1).yes();
        for (int page = 0; page < 16; page++) {
            desk.pokeFour(64 * page + 60, -1).yes();
        }
        desk.reload(1);
        desk.peek(1023).is(255);
        desk.unmap(0).yes();
        desk.map(0, 16, 2).yes();
        desk.poke(64, 1).yes();
        desk.reload(1);
        for (int page = 0; page < 16; page++) {
            desk.peek(64 * page).is(page == 1 ? 1 : 0);
            desk.peek(64 * page + 63).is(0);
        }
        desk.peek(1024).none();
    }

    private void peekFirstAndLast() {
        Desk desk = desk();
        desk.map(0, 1, 0).yes();
        desk.map(LAST_PAGE, 1, 0).yes();
        desk.poke(0, 8).yes();
        desk.poke(LAST, 9).yes();
        desk.reload(2);
        desk.peek(-1).none();
        desk.peek(0).is(8);
        desk.peek(LAST).is(9);
        desk.peek(LEAST).none();
        desk.peek(LAST_PAGE - 1).none();
        desk.peek(LAST_PAGE).is(0);
    }

    private void flags() {
        sentence("Promise 17: the flags of the region that has an address", this::flagsOfRegions);
        sentence("Promise 17: NONE if none has", this::flagsNone);
    }

    private void flagsOfRegions() {
        Desk desk = desk();
        for (int i = 0; i < 6; i++) {
            desk.map(128 * i, 2, 7 - i).yes();
        }
        desk.reload(6);
        for (int i = 0; i < 6; i++) {
            desk.flags(128 * i).is(7 - i);
            desk.flags(128 * i + 64).is(7 - i);
            desk.flags(128 * i + 127).is(7 - i);
        }
        desk.flags(768).none();
        desk.unmap(640).yes();
        desk.map(640, 1, 0).yes();
        desk.flags(640).is(2);
        desk.reload(6);
        desk.flags(640).is(0);
        desk.flags(704).none();
    }

    private void flagsNone() {
        Desk desk = desk();
        desk.map(128, 1, 4).yes();
        desk.map(256, 1, 0).yes();
        desk.flags(128).none();
        desk.reload(2);
        desk.flags(128).is(4);
        desk.flags(191).is(4);
        desk.flags(256).is(0);
        desk.flags(319).is(0);
        int[] none = {127, 192, 255, 320, 0, -1, -128, LEAST, LEAST + 128, LAST};
        for (int address : none) {
            desk.flags(address).none();
        }
        unchanged(Sentences::busy, d -> d.flags(128), -1);
        unchanged(Sentences::busy, d -> d.flags(319), 5);
    }

    private void register() {
        sentence("Promise 18: a register of thread t, from 0 on; 8: its id", this::registersOfThreads);
        sentence("Promise 18: IndexOutOfBoundsException if there is no such thread", this::registerNoThread);
        sentence("Promise 18: IndexOutOfBoundsException if there is no such register", this::registerNoRegister);
        sentence("Promise 18: IndexOutOfBoundsException without a core", this::registerWithoutCore);
        sentence("Promise 18: after the exception all is as it was", this::registerRefused);
    }

    private static void threeThreads(Desk desk) {
        for (int t = 0; t < 3; t++) {
            desk.thread(-7 * t).is(t);
            for (int r = 0; r < 8; r++) {
                desk.set(t, r, 100 * t + r + 1).yes();
            }
        }
        desk.set(1, 0, LEAST).yes();
        desk.set(1, 7, LAST).yes();
        desk.set(2, 0, -1).yes();
    }

    private void registersOfThreads() {
        Desk desk = desk();
        threeThreads(desk);
        desk.reload(0);
        for (int t = 0; t < 3; t++) {
            for (int r = 1; r < 7; r++) {
                desk.register(t, r).is(100 * t + r + 1);
            }
            desk.register(t, 8).is(-7 * t);
        }
        desk.register(0, 0).is(1);
        desk.register(0, 7).is(8);
        desk.register(1, 0).is(LEAST);
        desk.register(1, 7).is(LAST);
        desk.register(2, 0).is(-1);
        desk.register(2, 7).is(208);
    }

    private void registerNoThread() {
        Desk desk = desk();
        for (int threads = 0; threads <= 3; threads++) {
            desk.reload(0);
            for (int r = 0; r <= 8; r += 8) {
                desk.register(threads, r).thrown();
                desk.register(-1, r).thrown();
                desk.register(3, r).thrown();
                desk.register(LAST, r).thrown();
                desk.register(LEAST, r).thrown();
                // 536870912 rows of eight wrap round to none.
                desk.register(536870912, r).thrown();
            }
            if (threads > 0) {
                desk.register(threads - 1, 8).is(threads - 1);
            }
            desk.thread(threads).is(threads < 3 ? threads : -1);
        }
    }

    private void registerNoRegister() {
        Desk desk = desk();
        threeThreads(desk);
        desk.reload(0);
        int[] none = {-1, 9, -8, 10, 16, LAST, LEAST};
        for (int t = 0; t < 3; t++) {
            for (int r : none) {
                desk.register(t, r).thrown();
            }
        }
    }

    private void registerWithoutCore() {
        Desk desk = desk();
        threeThreads(desk);
        desk.dump().is(252);
        desk.copy().is(252);
        desk.register(0, 0).thrown();
        desk.register(0, 8).thrown();
        desk.right(0);
        desk.register(0, 0).is(1);
    }

    private void registerRefused() {
        unchanged(Sentences::busy, d -> d.register(1, 0), Answer.THROWN);
        unchanged(Sentences::busy, d -> d.register(0, 9), Answer.THROWN);
        unchanged(Sentences::busy, d -> d.register(-1, -1), Answer.THROWN);
        unchanged(Sentences::busy, d -> d.register(0, 8), 5);
    }

    private void find() {
        sentence("Promise 19: the least address", this::findLeast);
        sentence("Promise 19: the least address, in whatever order the file has the regions", this::findInAnyOrder);
        sentence("Promise 19: from one on", this::findFrom);
        sentence("Promise 19: from one on, from below 0 and from the last address", this::findFromEdges);
        sentence("Promise 19: four bytes of one region", this::findInOneRegion);
        sentence("Promise 19: the first four and the last four of a region", this::findFirstAndLast);
        sentence("Promise 19: a number, its lowest byte first, with any bits", this::findNumbers);
        sentence("Promise 19: NONE if there is none", this::findNone);
        sentence("Promise 19: pages that are not in the file are searched, too", this::findZeros);
    }

    private void findLeast() {
        Desk desk = desk();
        for (int i = 5; i >= 0; i--) {
            desk.map(1024 * i, 1, 0).yes();
            desk.pokeFour(1024 * i + 9, 77).yes();
        }
        for (int i = 0; i < 6; i++) {
            desk.reload(6 - i);
            desk.find(77, 0).is(1024 * i + 9);
            desk.unmap(1024 * i).yes();
        }
        desk.reload(0);
        desk.find(77, 0).none();
    }

    private void findInAnyOrder() {
        Bytes b = new Bytes().header(4).notesEntry(180, 0).regionEntry(180, 6400, 64, 64, 0);
        b.regionEntry(244, 64, 64, 64, 0).regionEntry(308, 640, 64, 64, 0);
        b.four(99).zeros(60).zeros(8).four(99).zeros(52).zeros(60).four(99);
        Desk desk = desk();
        desk.tape(b);
        desk.right(3);
        desk.find(99, 0).is(72);
        desk.find(99, 73).is(700);
        desk.find(99, 701).is(6400);
        desk.find(99, 6401).none();
    }

    private static void twoRegions(Desk desk) {
        desk.map(640, 2, 0).yes();
        desk.map(64, 1, 0).yes();
        desk.pokeFour(64, 0x01020304).yes();
        desk.pokeFour(640, 0x01020304).yes();
        desk.pokeFour(764, 0x01020304).yes();
        desk.reload(2);
    }

    private void findFrom() {
        Desk desk = desk();
        twoRegions(desk);
        int[] from = {0, 63, 64, 65, 127, 128, 639, 640, 641, 763, 764, 765, 768};
        int[] found = {64, 64, 64, 640, 640, 640, 640, 640, 764, 764, 764, -1, -1};
        for (int i = 0; i < from.length; i++) {
            desk.find(0x01020304, from[i]).is(found[i]);
        }
        desk.find(0, 67).is(68);
        desk.find(0, 69).is(69);
        desk.find(0, 124).is(124);
        desk.find(0, 125).is(644);
        unchanged(Sentences::busy, d -> d.find(1000, 0), 68);
        unchanged(Sentences::busy, d -> d.find(1000, 69), -1);
    }

    private void findFromEdges() {
        Desk desk = desk();
        twoRegions(desk);
        int[] below = {-1, -64, -65, LEAST, LEAST + 64, LEAST + 641};
        for (int from : below) {
            desk.find(0x01020304, from).is(64);
        }
        desk.find(0x01020304, LAST).none();
        desk.map(LAST_PAGE, 1, 0).yes();
        desk.map(0, 1, 0).yes();
        desk.pokeFour(LAST - 3, 0x55667788).yes();
        desk.reload(4);
        desk.find(0x55667788, LEAST).is(LAST - 3);
        desk.find(0x55667788, 0).is(LAST - 3);
        desk.find(0x55667788, LAST - 3).is(LAST - 3);
        desk.find(0x55667788, LAST - 2).none();
        desk.find(0, LAST_PAGE).is(LAST_PAGE);
        desk.find(0, LAST - 6).none();
        for (int k = 0; k < 4; k++) {
            desk.find(0, LAST - k).none();
        }
        desk.find(0, -1).is(0);
    }

    private void findInOneRegion() {
        for (int first = 1; first < 4; first++) {
            Desk desk = desk(first + " bytes of the first region");
            desk.map(64, 1, 0).yes();
            desk.map(128, 1, 0).yes();
            desk.pokeFour(128 - first, 0x11223344).yes();
            desk.reload(2);
            desk.peek(128 - first).is(0x44);
            desk.peek(131 - first).is(0x11);
            desk.find(0x11223344, 0).none();
            desk.pokeFour(180, 0x11223344).yes();
            desk.reload(2);
            desk.find(0x11223344, 0).is(180);
        }
    }

    private void findFirstAndLast() {
        Desk desk = desk();
        desk.map(1024, 16, 0).yes();
        desk.map(2048, 1, 0).yes();
        desk.pokeFour(1024, 0x01010101).yes();
        desk.pokeFour(2044, 0x02020202).yes();
        desk.pokeFour(2048, 0x03030303).yes();
        desk.pokeFour(2108, 0x04040404).yes();
        desk.reload(2);
        desk.find(0x01010101, 0).is(1024);
        desk.find(0x02020202, 0).is(2044);
        desk.find(0x03030303, 0).is(2048);
        desk.find(0x04040404, 0).is(2108);
        desk.find(0x04040404, 2109).none();
        // One byte more or less at either border would make these.
        desk.find(0x03020202, 0).none();
        desk.find(0x00040404, 0).none();
        desk.find(0x01010100, 0).none();
    }

    private void findNumbers() {
        Desk desk = desk();
        desk.map(64, 1, 0).yes();
        desk.pokeFour(70, 0x81020384).yes();
        desk.pokeFour(80, -1).yes();
        desk.pokeFour(90, LEAST).yes();
        desk.pokeFour(100, 0x7FFFFFFF).yes();
        desk.pokeFour(110, 0x00FF00FF).yes();
        desk.reload(1);
        desk.find(0x81020384, 0).is(70);
        desk.find(0x84030281, 0).none();
        desk.find(0x00810203, 0).is(71);
        desk.find(-1, 0).is(80);
        desk.find(LEAST, 0).is(90);
        desk.find(128, 0).is(93);
        desk.find(LAST, 0).is(100);
        desk.find(0x00FF00FF, 0).is(110);
        desk.find(1, 0).none();
    }

    private void findNone() {
        Desk desk = desk();
        desk.map(64, 1, 0).yes();
        desk.poke(64, 5).yes();
        desk.find(5, 0).none();
        desk.reload(1);
        desk.find(5, 0).is(64);
        desk.find(6, 0).none();
        desk.unmap(64).yes();
        desk.map(64, 1, 0).yes();
        desk.reload(1);
        desk.find(5, 0).none();
        desk.find(0, 0).is(64);
        desk.find(0, 124).is(124);
        desk.find(0, 125).none();
        desk.find(-1, 0).none();
    }

    private void findZeros() {
        Desk desk = desk();
        desk.map(64, 3, 0).yes();
        for (int k = 64; k < 128; k++) {
            desk.poke(k, 255).yes();
        }
        desk.reload(1);
        desk.find(0, 0).is(128);
        desk.find(255, 0).is(127);
        desk.find(0, 252).is(252);
        desk.find(0, 253).none();
    }

    private void caller() {
        sentence("Promise 20: the address to which call i, from 0 on, returns", this::callerChain);
        sentence("Promise 20: NONE if there is no such thread", this::callerNoThread);
        sentence("Promise 20: NONE if i is below 0", this::callerBelowZero);
        sentence("Promise 20: NONE if f is not above 0", this::callerFrameNotAboveZero);
        sentence("Promise 20: NONE if f is not above the f before", this::callerFrameNotAboveBefore);
        sentence("Promise 20: NONE if one of the eight bytes from f on is in no region", this::callerEightBytes);
        sentence("Promise 20: the eight bytes may be of two regions", this::callerOverTwoRegions);
        sentence("Promise 20: NONE if the eight bytes go beyond the last address", this::callerLastAddress);
        sentence("Promise 20: on the way there, not behind it", this::callerBehindTheWay);
        sentence("Promise 20: as many calls as frames go into a region", this::callerManyFrames);
        sentence("Promise 20: the address may be any number", this::callerAnyNumber);
        sentence("Promise 20: NONE without a core", this::callerWithoutCore);
    }

    private void frame(Desk desk, int f, int next, int back) {
        desk.pokeFour(f, next).yes();
        desk.pokeFour(f + 4, back).yes();
    }

    /** A desk with three regions and three threads of which the middle one has its frame at f. */
    private Desk framed(String name, int f) {
        Desk desk = desk(name);
        desk.map(64, 1, 0).yes();
        desk.map(128, 1, 0).yes();
        desk.map(1024, 2, 0).yes();
        for (int t = 0; t < 3; t++) {
            desk.thread(t).is(t);
        }
        desk.set(1, 7, f).yes();
        return desk;
    }

    private void callerChain() {
        Desk desk = framed("", 65);
        frame(desk, 65, 80, 500);
        frame(desk, 80, 1030, 501);
        frame(desk, 1030, 1038, 502);
        frame(desk, 1038, 0, 503);
        desk.reload(3);
        for (int i = 0; i < 4; i++) {
            desk.caller(1, i).is(500 + i);
        }
        desk.caller(1, 4).none();
        desk.caller(1, 5).none();
        desk.caller(1, LAST).none();
        desk.caller(1, 2).is(502);
        unchanged(Sentences::busy, d -> d.caller(0, 0), 1000);
        unchanged(Sentences::busy, d -> d.caller(0, 1), 0);
        unchanged(Sentences::busy, d -> d.caller(0, 2), -1);
    }

    private void callerNoThread() {
        Desk desk = desk();
        desk.map(64, 1, 0).yes();
        frame(desk, 64, 0, 500);
        int[] none = {-1, 3, 4, LAST, LEAST, 536870912};
        for (int threads = 0; threads <= 3; threads++) {
            desk.reload(1);
            for (int t : none) {
                desk.caller(t, 0).none();
            }
            for (int t = 0; t < 3; t++) {
                desk.caller(t, 0).is(t < threads ? 500 : -1);
            }
            desk.thread(threads).is(threads < 3 ? threads : -1);
            desk.set(threads, 7, 64).is(threads < 3 ? 1 : 0);
        }
    }

    private void callerBelowZero() {
        Desk desk = framed("", 64);
        frame(desk, 64, 72, 500);
        frame(desk, 72, 0, 501);
        desk.reload(3);
        desk.caller(1, 0).is(500);
        desk.caller(1, 1).is(501);
        desk.caller(1, -1).none();
        desk.caller(1, -2).none();
        desk.caller(1, LEAST).none();
        desk.caller(1, LEAST + 1).none();
    }

    private void callerFrameNotAboveZero() {
        int[] frames = {0, -1, -8, -64, LEAST, LEAST + 64};
        for (int f : frames) {
            Desk desk = framed("register 7 is " + f, f);
            desk.map(0, 1, 0).yes();
            frame(desk, 0, 8, 600);
            desk.reload(4);
            desk.caller(1, 0).none();
            desk.caller(1, 1).none();
        }
        Desk one = framed("register 7 is 1", 1);
        one.map(0, 1, 0).yes();
        frame(one, 1, 0, 601);
        one.reload(4);
        one.caller(1, 0).is(601);
        one.caller(1, 1).none();
        for (int f : frames) {
            Desk desk = framed("the next frame is " + f, 64);
            desk.map(0, 1, 0).yes();
            frame(desk, 64, f, 602);
            desk.reload(4);
            desk.caller(1, 0).is(602);
            desk.caller(1, 1).none();
        }
    }

    private void callerFrameNotAboveBefore() {
        int[] next = {71, 72, 73};
        for (int f : next) {
            Desk desk = framed("72, then " + f, 72);
            frame(desk, 72, f, 500);
            desk.reload(3);
            desk.caller(1, 0).is(500);
            // At 73 the number four bytes on is made of bytes of 500 and the 0 behind it.
            desk.caller(1, 1).is(f == 73 ? 1 : -1);
        }
        Desk round = framed("a ring", 64);
        frame(round, 64, 80, 500);
        frame(round, 80, 96, 501);
        frame(round, 96, 64, 502);
        round.reload(3);
        round.caller(1, 2).is(502);
        round.caller(1, 3).none();
        round.caller(1, 4).none();
        round.caller(1, LAST).none();
        Desk back = framed("back, but above the first", 64);
        frame(back, 64, 96, 500);
        frame(back, 96, 80, 501);
        frame(back, 80, 104, 502);
        back.reload(3);
        back.caller(1, 1).is(501);
        back.caller(1, 2).none();
    }

    private void callerEightBytes() {
        int[] frames = {56, 57, 63, 64, 65, 184, 185, 186, 188, 191, 192, 1023, 1024, 1144, 1145, 1151, 1152};
        int[] calls = {-1, -1, -1, 0, 0, 0, -1, -1, -1, -1, -1, -1, 0, 0, -1, -1, -1};
        for (int i = 0; i < frames.length; i++) {
            Desk desk = framed("register 7 is " + frames[i], frames[i]);
            desk.reload(3);
            desk.caller(1, 0).is(calls[i]);
            desk.caller(1, 1).none();
            int f = frames[i];
            if (f > 72) {
                Desk second = framed("the second frame is " + f, 64);
                frame(second, 64, f, 500);
                second.reload(3);
                second.caller(1, 0).is(500);
                second.caller(1, 1).is(calls[i]);
            }
        }
    }

    private void callerOverTwoRegions() {
        for (int f = 121; f <= 127; f++) {
            Desk desk = framed("the frame is " + f, f);
            frame(desk, f, 1024, 0x01020304);
            frame(desk, 1024, 0, 900);
            desk.reload(3);
            desk.caller(1, 0).is(0x01020304);
            desk.caller(1, 1).is(900);
        }
    }

    private void callerLastAddress() {
        int[] frames = {LAST - 8, LAST - 7, LAST - 6, LAST - 3, LAST - 1, LAST};
        int[] calls = {0, 0, -1, -1, -1, -1};
        for (int i = 0; i < frames.length; i++) {
            Desk desk = framed("register 7 is " + frames[i], frames[i]);
            desk.map(LAST_PAGE, 1, 0).yes();
            desk.map(0, 1, 0).yes();
            desk.reload(5);
            desk.caller(1, 0).is(calls[i]);
            desk.caller(1, 1).none();
        }
        Desk desk = framed("the last eight bytes", LAST - 7);
        desk.map(LAST_PAGE, 1, 0).yes();
        frame(desk, LAST - 7, LAST, 904);
        desk.reload(4);
        desk.caller(1, 0).is(904);
        desk.caller(1, 1).none();
    }

    private void callerBehindTheWay() {
        int[] next = {0, -1, 64, 192, 2000, LAST, LEAST};
        for (int f : next) {
            Desk desk = framed("the last frame's next is " + f, 64);
            frame(desk, 64, 72, 500);
            frame(desk, 72, f, 501);
            desk.reload(3);
            desk.caller(1, 0).is(500);
            desk.caller(1, 1).is(501);
            desk.caller(1, 2).none();
        }
    }

    private void callerManyFrames() {
        Desk desk = desk();
        desk.map(1024, 16, 0).yes();
        desk.thread(1).is(0);
        desk.set(0, 7, 1024).yes();
        for (int f = 1024; f < 2048; f += 4) {
            desk.pokeFour(f, f + 4).yes();
        }
        desk.reload(1);
        for (int i = 0; i < 255; i += 2) {
            desk.caller(0, i).is(1032 + 4 * i);
        }
        desk.caller(0, 253).is(2044);
        desk.caller(0, 255).none();
        desk.caller(0, 256).none();
    }

    private void callerAnyNumber() {
        int[] numbers = {0, 1, -1, -9, LAST, LEAST, 0x80FF7F01};
        for (int back : numbers) {
            Desk desk = framed("it returns to " + back, 64);
            frame(desk, 64, 72, back);
            frame(desk, 72, 0, 500);
            desk.reload(3);
            desk.caller(1, 0).is(back);
            desk.caller(1, 1).is(500);
        }
    }

    private void callerWithoutCore() {
        Desk desk = framed("", 64);
        frame(desk, 64, 0, 500);
        desk.dump().is(412);
        desk.copy().is(412);
        desk.caller(1, 0).none();
        desk.right(3);
        desk.caller(1, 0).is(500);
        desk.pokeFour(68, 501).yes();
        desk.caller(1, 0).is(500);
    }
}
