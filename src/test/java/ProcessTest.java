/** The process, promises 1 to 7: what can be in it and what can't, and that a refused call changes nothing. */
public final class ProcessTest extends Sentences {
    private static final int EMPTY_FILE = 84;

    public static void main(String[] args) {
        new ProcessTest().run();
    }

    @Override
    void tests() {
        newObject();
        map();
        unmap();
        poke();
        pokeFour();
        thread();
        set();
    }

    private void newObject() {
        sentence("Promise 1: no regions", this::newHasNoRegions);
        sentence("Promise 1: no threads", this::newHasNoThreads);
        sentence("Promise 1: no file", this::newHasNoFile);
        sentence("Promise 1: no core", this::newHasNoCore);
        sentence("Promise 1: the tape is empty", this::newTapeIsEmpty);
        sentence("Promise 1: a new object has nothing of others", this::newHasNothingOfOthers);
    }

    private void newHasNoRegions() {
        Desk desk = desk();
        desk.unmap(0).no();
        desk.poke(0, 1).no();
        desk.poke(LAST, 1).no();
        desk.pokeFour(0, 1).no();
        desk.dump().is(EMPTY_FILE);
        desk.byteAt(44).is(1);
    }

    private void newHasNoThreads() {
        Desk desk = desk();
        desk.set(0, 0, 1).no();
        desk.dump().is(EMPTY_FILE);
        desk.thread(0).is(0);
    }

    private void newHasNoFile() {
        Desk desk = desk();
        desk.byteAt(0).none();
        desk.byteAt(83).none();
        desk.copy().is(0);
    }

    private void newHasNoCore() {
        Desk desk = desk();
        desk.core(0).none();
        desk.core(1).none();
        desk.peek(0).none();
        desk.flags(0).none();
        desk.register(0, 0).thrown();
        desk.register(0, 8).thrown();
        desk.find(0, 0).none();
        desk.caller(0, 0).none();
        desk.error(0).is(0);
        desk.error(1).is(0);
    }

    private void newTapeIsEmpty() {
        Desk desk = desk();
        desk.cut(1).no();
        desk.cut(0).yes();
        desk.put(1, 1).no();
        desk.wrong(1, 0);
        desk.put(0, 1).yes();
        desk.cut(1).yes();
    }

    private void newHasNothingOfOthers() {
        Desk first = desk("first");
        busy(first);
        Desk second = desk("second");
        second.poke(64, 1).no();
        second.core(0).none();
        second.byteAt(0).none();
        second.cut(1).no();
        second.error(0).is(0);
        second.thread(5).is(0);
        first.reload(2);
        first.peek(64).is(201);
    }

    private void map() {
        sentence("Promise 2: a region is there: true", this::mapped);
        sentence("THE PROCESS: an address that is a multiple of 64", this::mapMultiples);
        sentence("Terms: addresses are 0 .. 2147483647", this::mapAddresses);
        sentence("THE PROCESS: 1 to 16 pages", this::mapPages);
        sentence("Terms: a page has 64 bytes", this::mapPageBytes);
        sentence("THE PROCESS: flags 0 .. 7", this::mapFlags);
        sentence("THE PROCESS: no two have a byte in common", this::mapCommonBytes);
        sentence("THE PROCESS: none goes beyond the last address", this::mapBeyondTheLast);
        sentence("THE PROCESS: their bytes are 0 at first", this::mapZeros);
        sentence("THE PROCESS: their bytes are 0 at first, where a region was before", this::mapZerosAgain);
        sentence("Promise 2: false if there are six", this::mapSix);
        sentence("Promise 2: six, whatever the seventh would be", this::mapSeventhBetween);
        sentence("Promise 2: nothing is there after false", this::mapRefused);
    }

    private void mapped() {
        Desk desk = desk();
        desk.map(640, 2, 5).yes();
        desk.poke(640, 1).yes();
        desk.reload(1);
        desk.flags(639).none();
        desk.flags(640).is(5);
        desk.flags(767).is(5);
        desk.flags(768).none();
    }

    private void mapMultiples() {
        Desk desk = desk();
        for (int off = 1; off < 64; off++) {
            desk.map(64 + off, 1, 0).no();
        }
        desk.dump().is(EMPTY_FILE);
        desk.map(64, 1, 0).yes();
        desk.map(128, 1, 0).yes();
        desk.map(0, 1, 0).yes();
        desk.map(1073741824, 1, 0).yes();
        desk.reload(4);
    }

    private void mapAddresses() {
        Desk desk = desk();
        desk.map(-64, 1, 0).no();
        desk.map(-64, 2, 0).no();
        desk.map(-1024, 16, 0).no();
        desk.map(LEAST, 1, 0).no();
        desk.map(LEAST, 16, 0).no();
        desk.map(-1, 1, 0).no();
        desk.dump().is(EMPTY_FILE);
        desk.map(0, 1, 1).yes();
        desk.map(LAST_PAGE, 1, 2).yes();
        desk.poke(-1, 1).no();
        desk.poke(0, 1).yes();
        desk.poke(LAST, 1).yes();
        desk.poke(LEAST, 1).no();
        desk.reload(2);
        desk.flags(-1).none();
        desk.flags(0).is(1);
        desk.flags(LAST).is(2);
        desk.flags(LEAST).none();
    }

    private void mapPages() {
        Desk desk = desk();
        // Some of these are 1 to 16 pages when their bytes are counted with wrap-around.
        int[] none = {0, -1, 17, 32, -16, LEAST, LAST, 67108865, 67108880, -67108863, 33554433};
        for (int pages : none) {
            desk.map(0, pages, 0).no();
            desk.map(64, pages, 0).no();
        }
        desk.dump().is(EMPTY_FILE);
        desk.map(0, 1, 1).yes();
        desk.map(64, 16, 2).yes();
        desk.map(1088, 15, 3).yes();
        desk.map(2048, 2, 4).yes();
        desk.reload(4);
        int[] edges = {63, 64, 1087, 1088, 2047, 2048, 2175};
        int[] flags = {1, 2, 2, 3, 3, 4, 4};
        for (int i = 0; i < edges.length; i++) {
            desk.flags(edges[i]).is(flags[i]);
        }
        desk.flags(2176).none();
    }

    private void mapPageBytes() {
        for (int pages = 1; pages <= 16; pages++) {
            Desk desk = desk(pages + " pages");
            desk.map(1024, pages, 7).yes();
            desk.poke(1023, 1).no();
            desk.poke(1024, 1).yes();
            desk.poke(1023 + 64 * pages, 1).yes();
            desk.poke(1024 + 64 * pages, 1).no();
            desk.dump().is(52 + 64 + 64 * pages);
        }
    }

    private void mapFlags() {
        Desk desk = desk();
        int[] none = {-1, 8, 15, 256, -8, LAST, LEAST};
        for (int flags : none) {
            desk.map(0, 1, flags).no();
        }
        desk.dump().is(EMPTY_FILE);
        desk.map(0, 1, 0).yes();
        desk.map(64, 1, 7).yes();
        desk.map(128, 1, 1).yes();
        desk.map(192, 1, 4).yes();
        desk.reload(4);
        desk.flags(0).is(0);
        desk.flags(64).is(7);
        desk.flags(128).is(1);
        desk.flags(192).is(4);
    }

    private void mapCommonBytes() {
        Desk desk = desk();
        desk.map(640, 3, 0).yes();
        int[][] common = {{640, 3}, {640, 1}, {704, 1}, {768, 1}, {576, 5}, {576, 4}, {576, 2}, {768, 2}, {0, 11},
            {640, 16}, {768, 16}, {512, 16}};
        for (int[] region : common) {
            desk.map(region[0], region[1], 0).no();
        }
        desk.dump().is(52 + 64);
        desk.map(0, 10, 0).yes();
        desk.map(832, 16, 0).yes();
        desk.dump().is(52 + 4 * 32);
        desk.map(576, 1, 0).no();
        desk.map(1792, 1, 0).no();
        desk.map(1856, 1, 0).yes();
        desk.map(LAST_PAGE, 1, 0).yes();
        desk.map(LAST_PAGE, 1, 0).no();
        desk.map(LAST_PAGE - 64, 2, 0).no();
        desk.map(LAST_PAGE - 64, 1, 0).yes();
        desk.dump().is(52 + 7 * 32);
    }

    private void mapBeyondTheLast() {
        for (int pages = 1; pages <= 16; pages++) {
            Desk desk = desk();
            int start = LAST - 64 * pages + 1;
            desk.map(start, pages + 1, 0).no();
            desk.map(start + 64, pages, 0).no();
            desk.map(LAST_PAGE, pages + 1, 0).no();
            desk.dump().is(EMPTY_FILE);
            desk.map(start, pages, 6).yes();
            desk.poke(LAST, 8).yes();
            desk.reload(1);
            desk.flags(start - 1).none();
            desk.flags(start).is(6);
            desk.peek(LAST).is(8);
        }
    }

    private void mapZeros() {
        Desk desk = desk();
        desk.map(0, 16, 0).yes();
        desk.dump().is(52 + 64);
        desk.reload(1);
        for (int address = 0; address < 1024; address += 3) {
            desk.peek(address).is(0);
        }
    }

    private void mapZerosAgain() {
        Desk desk = desk();
        desk.map(64, 16, 1).yes();
        for (int page = 1; page <= 16; page++) {
            desk.pokeFour(64 * page + 60, -1).yes();
        }
        desk.dump().is(52 + 64 + 1024);
        desk.unmap(64).yes();
        desk.map(64, 16, 2).yes();
        desk.dump().is(52 + 64);
        desk.unmap(64).yes();
        desk.map(0, 16, 2).yes();
        desk.dump().is(52 + 64);
        desk.poke(1023, 1).yes();
        desk.reload(1);
        for (int page = 0; page < 16; page++) {
            desk.peek(64 * page + 60).is(0);
        }
        desk.peek(1023).is(1);
    }

    private void mapSix() {
        Desk desk = desk();
        for (int i = 0; i < 6; i++) {
            desk.map(1024 * i, 1, i).yes();
        }
        desk.map(8192, 1, 0).no();
        desk.reload(6);
        desk.flags(8192).none();
        desk.unmap(2048).yes();
        desk.map(8192, 1, 6).yes();
        desk.map(2048, 1, 0).no();
        desk.reload(6);
        desk.flags(2048).none();
        desk.flags(8192).is(6);
        for (int i = 0; i < 6; i++) {
            desk.flags(1024 * i).is(i == 2 ? -1 : i);
        }
    }

    private void mapSeventhBetween() {
        Desk desk = desk();
        for (int i = 6; i >= 1; i--) {
            desk.map(128 * i, 1, 7).yes();
        }
        desk.map(0, 1, 0).no();
        desk.map(192, 1, 0).no();
        desk.map(832, 1, 0).no();
        desk.map(128, 1, 0).no();
        desk.map(LAST_PAGE, 1, 0).no();
        desk.dump().is(52 + 7 * 32);
        desk.reload(6);
        for (int i = 1; i <= 6; i++) {
            desk.flags(128 * i).is(7);
            desk.flags(128 * i + 64).none();
        }
    }

    private void mapRefused() {
        unchanged(Sentences::busy, desk -> desk.map(320, 0, 1), 0);
        unchanged(Sentences::busy, desk -> desk.map(320, 17, 1), 0);
        unchanged(Sentences::busy, desk -> desk.map(320, 1, 8), 0);
        unchanged(Sentences::busy, desk -> desk.map(320, 1, -1), 0);
        unchanged(Sentences::busy, desk -> desk.map(321, 1, 1), 0);
        unchanged(Sentences::busy, desk -> desk.map(-64, 1, 1), 0);
        unchanged(Sentences::busy, desk -> desk.map(64, 1, 1), 0);
        unchanged(Sentences::busy, desk -> desk.map(128, 2, 1), 0);
        unchanged(Sentences::busy, desk -> desk.map(LAST_PAGE, 2, 1), 0);
        unchanged(ProcessTest::sixRegions, desk -> desk.map(384, 1, 1), 0);
        unchanged(ProcessTest::sixRegions, desk -> desk.map(LAST_PAGE, 1, 1), 0);
    }

    private static void sixRegions(Desk desk) {
        for (int i = 0; i < 6; i++) {
            desk.map(64 * i, 1, i).yes();
        }
        desk.poke(320, 66).yes();
    }

    private void unmap() {
        sentence("Promise 3: the region that begins at an address is no more", this::unmapped);
        sentence("Promise 3: false if there is none", this::unmapNone);
        sentence("Promise 3: after false all regions are there", this::unmapRefused);
        sentence("Promise 3: the first, the middle and the last of six", this::unmapEachOfSix);
    }

    private void unmapped() {
        Desk desk = desk();
        desk.map(0, 1, 1).yes();
        desk.map(64, 2, 2).yes();
        desk.map(LAST_PAGE, 1, 3).yes();
        desk.poke(64, 1).yes();
        desk.unmap(64).yes();
        desk.poke(64, 1).no();
        desk.poke(191, 1).no();
        desk.poke(63, 2).yes();
        desk.poke(LAST_PAGE, 3).yes();
        desk.reload(2);
        desk.flags(64).none();
        desk.flags(128).none();
        desk.peek(63).is(2);
        desk.peek(LAST_PAGE).is(3);
        desk.unmap(0).yes();
        desk.unmap(LAST_PAGE).yes();
        desk.dump().is(EMPTY_FILE);
    }

    private void unmapNone() {
        Desk desk = desk();
        desk.unmap(0).no();
        desk.map(64, 2, 0).yes();
        int[] none = {0, 63, 65, 127, 128, 191, 192, -64, LEAST, LAST};
        for (int address : none) {
            desk.unmap(address).no();
        }
        desk.dump().is(52 + 64);
        desk.unmap(64).yes();
        desk.unmap(64).no();
        desk.dump().is(EMPTY_FILE);
    }

    private void unmapRefused() {
        unchanged(Sentences::busy, desk -> desk.unmap(0), 0);
        unchanged(Sentences::busy, desk -> desk.unmap(65), 0);
        unchanged(Sentences::busy, desk -> desk.unmap(128), 0);
        unchanged(Sentences::busy, desk -> desk.unmap(256), 0);
        unchanged(Sentences::busy, desk -> desk.unmap(320), 0);
        unchanged(Sentences::busy, desk -> desk.unmap(-64), 0);
    }

    private void unmapEachOfSix() {
        for (int gone = 0; gone < 6; gone++) {
            Desk desk = desk("without region " + gone);
            sixRegions(desk);
            for (int i = 0; i < 6; i++) {
                desk.poke(64 * i + 5, 10 + i).yes();
            }
            desk.unmap(64 * gone).yes();
            desk.reload(5);
            for (int i = 0; i < 6; i++) {
                desk.flags(64 * i).is(i == gone ? -1 : i);
                desk.peek(64 * i + 5).is(i == gone ? -1 : 10 + i);
            }
        }
    }

    private void poke() {
        sentence("Promise 4: a byte of a region: its first and its last", this::pokeFirstAndLast);
        sentence("Promise 4: the lowest 8 bits of v", this::pokeLowestBits);
        sentence("Promise 4: false if the address is in none", this::pokeNone);
        sentence("Promise 4: after false all bytes are as they were", this::pokeRefused);
    }

    private void pokeFirstAndLast() {
        Desk desk = desk();
        desk.map(128, 1, 0).yes();
        desk.map(192, 2, 0).yes();
        desk.poke(128, 1).yes();
        desk.poke(191, 2).yes();
        desk.poke(192, 3).yes();
        desk.poke(319, 4).yes();
        desk.reload(2);
        int[] bytes = {128, 191, 192, 319};
        for (int i = 0; i < 4; i++) {
            desk.peek(bytes[i]).is(1 + i);
        }
        desk.peek(129).is(0);
        desk.peek(190).is(0);
        desk.peek(193).is(0);
        desk.peek(318).is(0);
    }

    private void pokeLowestBits() {
        Desk desk = desk();
        int[] values = {0, 1, 127, 128, 255, 256, 257, 511, -1, -128, -255, -256, LAST, LEAST, 0x12345678};
        int[] bytes = {0, 1, 127, 128, 255, 0, 1, 255, 255, 128, 1, 0, 255, 0, 0x78};
        desk.map(64, 1, 0).yes();
        for (int i = 0; i < values.length; i++) {
            desk.poke(64 + i, 99).yes();
            desk.poke(64 + i, values[i]).yes();
        }
        desk.reload(1);
        for (int i = 0; i < values.length; i++) {
            desk.peek(64 + i).is(bytes[i]);
        }
        desk.peek(64 + values.length).is(0);
    }

    private void pokeNone() {
        Desk desk = desk();
        desk.poke(64, 1).no();
        desk.map(64, 1, 0).yes();
        desk.map(192, 1, 0).yes();
        int[] none = {63, 128, 191, 256, 0, -1, -64, LEAST, LAST, 64 + LEAST};
        for (int address : none) {
            desk.poke(address, 1).no();
        }
        desk.dump().is(52 + 96);
    }

    private void pokeRefused() {
        unchanged(Sentences::busy, desk -> desk.poke(63, 1), 0);
        unchanged(Sentences::busy, desk -> desk.poke(128, 1), 0);
        unchanged(Sentences::busy, desk -> desk.poke(191, 1), 0);
        unchanged(Sentences::busy, desk -> desk.poke(320, 1), 0);
        unchanged(Sentences::busy, desk -> desk.poke(-1, 1), 0);
        unchanged(Sentences::busy, desk -> desk.poke(64 + LEAST, 1), 0);
    }

    private void pokeFour() {
        sentence("Promise 5: four bytes, the lowest first", this::pokeFourLowestFirst);
        sentence("Promise 5: of regions: over the border of two", this::pokeFourOverTwo);
        sentence("Promise 5: the first four and the last four of a region", this::pokeFourFirstAndLast);
        sentence("Promise 5: false, and nothing changes, if one of them is in none", this::pokeFourRefused);
        sentence("Promise 5: false, and nothing changes, at a gap between regions", this::pokeFourAtGaps);
        sentence("Promise 5: false, and nothing changes, beyond the last address", this::pokeFourBeyondTheLast);
    }

    private void fourBytes(Desk desk, int address, int... bytes) {
        for (int i = 0; i < bytes.length; i++) {
            desk.peek(address + i).is(bytes[i]);
        }
    }

    private void pokeFourLowestFirst() {
        Desk desk = desk();
        desk.map(64, 1, 0).yes();
        desk.pokeFour(65, 0x04030201).yes();
        desk.pokeFour(70, -1).yes();
        desk.pokeFour(75, LEAST).yes();
        desk.pokeFour(80, 0xF4F3F2F1).yes();
        desk.pokeFour(90, -1).yes();
        desk.pokeFour(90, 0).yes();
        desk.pokeFour(100, 0x0D0C0B0A).yes();
        desk.pokeFour(102, 0x01020304).yes();
        desk.reload(1);
        fourBytes(desk, 64, 0, 1, 2, 3, 4, 0, 255, 255, 255, 255, 0, 0, 0, 0, 128, 0, 0xF1, 0xF2, 0xF3, 0xF4, 0);
        fourBytes(desk, 89, 0, 0, 0, 0, 0, 0);
        fourBytes(desk, 99, 0, 0x0A, 0x0B, 4, 3, 2, 1, 0);
    }

    private void pokeFourOverTwo() {
        for (int first = 1; first < 4; first++) {
            Desk desk = desk(first + " bytes of the first region");
            desk.map(128, 1, 0).yes();
            desk.map(64, 1, 0).yes();
            desk.pokeFour(128 - first, 0x04030201).yes();
            desk.reload(2);
            fourBytes(desk, 127 - first, 0, 1, 2, 3, 4, 0);
        }
    }

    private void pokeFourFirstAndLast() {
        Desk desk = desk();
        desk.map(0, 1, 0).yes();
        desk.map(LAST_PAGE, 1, 0).yes();
        desk.pokeFour(0, 0x04030201).yes();
        desk.pokeFour(60, 0x14131211).yes();
        desk.pokeFour(LAST_PAGE, 0x24232221).yes();
        desk.pokeFour(LAST - 3, 0x34333231).yes();
        desk.reload(2);
        fourBytes(desk, 0, 1, 2, 3, 4, 0);
        fourBytes(desk, 59, 0, 0x11, 0x12, 0x13, 0x14, -1);
        fourBytes(desk, LAST_PAGE, 0x21, 0x22, 0x23, 0x24, 0);
        fourBytes(desk, LAST - 4, 0, 0x31, 0x32, 0x33, 0x34);
    }

    private void pokeFourRefused() {
        int[] none = {-1, -2, -3, -4, LEAST, 61, 62, 63, 64, LAST};
        for (int address : none) {
            unchanged(ProcessTest::regionAtZero, desk -> desk.pokeFour(address, 0x51525354), 0);
        }
        unchanged(desk -> { }, desk -> desk.pokeFour(0, 1), 0);
    }

    private static void regionAtZero(Desk desk) {
        desk.map(0, 1, 0).yes();
        desk.pokeFour(0, 0x01020304).yes();
        desk.pokeFour(60, 0x05060708).yes();
    }

    private void pokeFourAtGaps() {
        int[] none = {61, 62, 63, 125, 126, 127, 128, 189, 190, 191, 317, 318, 319, 320};
        for (int address : none) {
            unchanged(Sentences::busy, desk -> desk.pokeFour(address, 0x51525354), 0);
        }
    }

    private void pokeFourBeyondTheLast() {
        int[] none = {LAST, LAST - 1, LAST - 2, LEAST, LEAST + 1, -1, -2, -3};
        for (int address : none) {
            unchanged(ProcessTest::firstAndLastPage, desk -> desk.pokeFour(address, 0x51525354), 0);
        }
    }

    private static void firstAndLastPage(Desk desk) {
        desk.map(0, 1, 0).yes();
        desk.map(LAST_PAGE, 1, 0).yes();
        desk.pokeFour(LAST - 3, 0x01020304).yes();
        desk.pokeFour(0, 0x05060708).yes();
    }

    private void thread() {
        sentence("Promise 6: its number, from 0 on", this::threadNumbers);
        sentence("THE PROCESS: an id (any int)", this::threadIds);
        sentence("Promise 6: NONE if there are three", this::threadFourth);
        sentence("Promise 6: NONE if there is one with this id", this::threadSameId);
        sentence("Promise 6: after NONE all threads are as they were", this::threadRefused);
        sentence("THE PROCESS: registers are 0 at first", this::threadRegisters);
    }

    private void threadNumbers() {
        Desk desk = desk();
        desk.thread(30).is(0);
        desk.thread(20).is(1);
        desk.thread(10).is(2);
        desk.reload(0);
        desk.core(1).is(3);
        desk.register(0, 8).is(30);
        desk.register(1, 8).is(20);
        desk.register(2, 8).is(10);
    }

    private void threadIds() {
        int[][] ids = {{0, -1, 1}, {LEAST, LAST, 0}, {65536, 256, 16777216}};
        for (int[] three : ids) {
            Desk desk = desk();
            for (int t = 0; t < 3; t++) {
                desk.thread(three[t]).is(t);
            }
            desk.reload(0);
            for (int t = 0; t < 3; t++) {
                desk.register(t, 8).is(three[t]);
            }
        }
    }

    private void threadFourth() {
        Desk desk = desk();
        for (int t = 0; t < 3; t++) {
            desk.thread(t).is(t);
        }
        desk.thread(3).none();
        desk.thread(-1).none();
        desk.thread(LEAST).none();
        desk.dump().is(EMPTY_FILE + 3 * 56);
        desk.set(2, 0, 1).yes();
        desk.set(3, 0, 1).no();
    }

    private void threadSameId() {
        Desk desk = desk();
        desk.thread(0).is(0);
        desk.thread(0).none();
        desk.thread(7).is(1);
        desk.thread(7).none();
        desk.thread(0).none();
        desk.dump().is(EMPTY_FILE + 2 * 56);
        desk.thread(8).is(2);
        desk.thread(8).none();
        desk.thread(0).none();
        desk.dump().is(EMPTY_FILE + 3 * 56);
    }

    private void threadRefused() {
        unchanged(Sentences::busy, desk -> desk.thread(5), -1);
        unchanged(Sentences::busy, desk -> desk.thread(-6), -1);
        unchanged(ProcessTest::threeThreads, desk -> desk.thread(4), -1);
        unchanged(ProcessTest::threeThreads, desk -> desk.thread(1), -1);
        unchanged(ProcessTest::threeThreads, desk -> desk.thread(3), -1);
    }

    private static void threeThreads(Desk desk) {
        for (int t = 0; t < 3; t++) {
            desk.thread(1 + t).is(t);
            for (int r = 0; r < 8; r++) {
                desk.set(t, r, 10 * t + r + 1).yes();
            }
        }
    }

    private void threadRegisters() {
        Desk desk = desk();
        for (int t = 0; t < 3; t++) {
            desk.thread(-1 - t).is(t);
        }
        desk.reload(0);
        for (int t = 0; t < 3; t++) {
            for (int r = 0; r < 8; r++) {
                desk.register(t, r).is(0);
            }
        }
    }

    private void set() {
        sentence("Promise 7: a register of a thread, 0 .. 7, any int", this::setRegisters);
        sentence("Promise 7: false if there is no such thread", this::setNoThread);
        sentence("Promise 7: false if there is no such register", this::setNoRegister);
        sentence("Promise 7: after false all registers are as they were", this::setRefused);
    }

    private void setRegisters() {
        Desk desk = desk();
        threeThreads(desk);
        desk.set(0, 0, LEAST).yes();
        desk.set(0, 7, LAST).yes();
        desk.set(2, 0, -1).yes();
        desk.set(2, 7, 0).yes();
        desk.reload(0);
        for (int r = 0; r < 8; r++) {
            desk.register(0, r).is(r == 0 ? LEAST : r == 7 ? LAST : r + 1);
            desk.register(1, r).is(11 + r);
            desk.register(2, r).is(r == 0 ? -1 : r == 7 ? 0 : 21 + r);
        }
        desk.register(0, 8).is(1);
        desk.register(1, 8).is(2);
        desk.register(2, 8).is(3);
    }

    private void setNoThread() {
        Desk desk = desk();
        for (int threads = 0; threads <= 3; threads++) {
            desk.set(threads, 0, 1).no();
            desk.set(threads, 7, 1).no();
            desk.set(-1, 0, 1).no();
            desk.set(-1, 7, 1).no();
            desk.set(LAST, 0, 1).no();
            desk.set(LEAST, 0, 1).no();
            // 536870912 rows of eight wrap round to none.
            desk.set(536870912, 0, 1).no();
            if (threads < 3) {
                desk.thread(threads).is(threads);
            }
            desk.set(threads, 7, threads).is(threads < 3 ? 1 : 0);
        }
        desk.reload(0);
        for (int t = 0; t < 3; t++) {
            desk.register(t, 0).is(0);
            desk.register(t, 7).is(t);
        }
    }

    private void setNoRegister() {
        Desk desk = desk();
        threeThreads(desk);
        int[] none = {-1, 8, 9, -8, 16, LAST, LEAST};
        for (int t = 0; t < 3; t++) {
            for (int register : none) {
                desk.set(t, register, 1).no();
            }
            desk.set(t, 0, 1).yes();
            desk.set(t, 7, 1).yes();
        }
    }

    private void setRefused() {
        int[][] none = {{-1, 0}, {-1, 8}, {3, 0}, {3, -1}, {0, -1}, {0, 8}, {1, -1}, {1, 8}, {2, 8}, {2, -8}, {2, 9}};
        for (int[] place : none) {
            unchanged(ProcessTest::threeThreads, desk -> desk.set(place[0], place[1], 999), 0);
        }
        unchanged(Sentences::busy, desk -> desk.set(2, 0, 999), 0);
        unchanged(Sentences::busy, desk -> desk.set(0, 8, 999), 0);
    }
}
