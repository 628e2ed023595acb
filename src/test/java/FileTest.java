import java.util.function.Consumer;

/** The file byte by byte and the tape, promises 8 to 12. */
public final class FileTest extends Sentences {
    public static void main(String[] args) {
        new FileTest().run();
    }

    @Override
    void tests() {
        header();
        programHeaders();
        notes();
        dump();
        byteAt();
        copy();
        put();
        cut();
    }

    /** The file is these bytes, no more and no fewer; the story is told anew for each run of them. */
    private void fileIs(Consumer<Desk> story, Bytes want) {
        for (int from = 0; from < want.length(); from += 400) {
            Desk desk = desk();
            story.accept(desk);
            desk.dump().is(want.length());
            for (int k = from; k < from + 400 && k < want.length(); k++) {
                desk.byteAt(k).is(want.at(k));
            }
            desk.byteAt(want.length()).none();
        }
    }

    private void fourIs(Desk desk, int k, int want) {
        for (int i = 0; i < 4; i++) {
            desk.byteAt(k + i).is(want >> 8 * i & 255);
        }
    }

    private void header() {
        sentence("HEADER, 52 bytes, field by field", this::headerFields);
        sentence("HEADER: how many program headers: one without regions, seven with six", this::headerCounts);
    }

    private void headerFields() {
        Bytes want = new Bytes().one(127, 69, 76, 70, 1, 1, 1, 0, 0, 0, 0, 0, 0, 0, 0, 0, 4, 0, 8, 0, 1, 0, 0, 0);
        want.one(0, 0, 0, 0, 52, 0, 0, 0, 0, 0, 0, 0, 0, 0, 0, 0, 52, 0, 32, 0, 1, 0, 0, 0, 0, 0, 0, 0);
        due.same("the header's length", want.length(), 52);
        fileIs(desk -> { }, want.notesEntry(84, 0));
    }

    private void headerCounts() {
        Desk desk = desk();
        for (int regions = 0; regions <= 6; regions++) {
            desk.dump().is(52 + 32 * (regions + 1));
            desk.byteAt(44).is(regions + 1);
            desk.byteAt(45).is(0);
            fourIs(desk, 56, 52 + 32 * (regions + 1));
            desk.map(1024 * regions, 1, 0).is(regions < 6 ? 1 : 0);
        }
    }

    private void programHeaders() {
        sentence("A PROGRAM HEADER for the notes: as many bytes in memory as in the file", this::notesHeader);
        sentence("A PROGRAM HEADER for each region, by addresses", this::regionHeaders);
        sentence("A PROGRAM HEADER of the last page, of 16 pages", this::regionHeaderEdges);
        sentence("A region's bytes: its pages up to the last one that is not all 0", this::pagesInTheFile);
        sentence("A region's bytes: a page's first byte and its last make it one that is not all 0", this::pageEdges);
        sentence("A region's bytes: none, if all pages are all 0", this::noPagesInTheFile);
        sentence("All comes without gaps", this::withoutGaps);
    }

    private void notesHeader() {
        Desk desk = desk();
        for (int threads = 0; threads <= 3; threads++) {
            desk.dump().is(84 + 56 * threads);
            fourIs(desk, 52, 4);
            fourIs(desk, 56, 84);
            fourIs(desk, 60, 0);
            fourIs(desk, 64, 0);
            fourIs(desk, 68, 56 * threads);
            fourIs(desk, 72, 56 * threads);
            fourIs(desk, 76, 0);
            fourIs(desk, 80, 4);
            desk.thread(-threads).is(threads < 3 ? threads : -1);
        }
    }

    private static void threeRegions(Desk desk) {
        desk.map(LAST_PAGE, 1, 7).yes();
        desk.map(64, 1, 1).yes();
        desk.map(1024, 2, 6).yes();
        desk.thread(9).is(0);
        desk.poke(LAST, 200).yes();
        desk.poke(64, 201).yes();
        desk.pokeFour(1025, 0x0A0B0C0D).yes();
    }

    private void regionHeaders() {
        Bytes want = new Bytes().header(4).notesEntry(180, 56);
        want.regionEntry(236, 64, 64, 64, 1).regionEntry(300, 1024, 64, 128, 6);
        want.regionEntry(364, LAST_PAGE, 64, 64, 7).threadNote(9);
        want.one(201).zeros(63);
        want.one(0, 0x0D, 0x0C, 0x0B, 0x0A).zeros(59);
        want.zeros(63).one(200);
        fileIs(FileTest::threeRegions, want);
    }

    private void regionHeaderEdges() {
        Bytes want = new Bytes().header(3).notesEntry(148, 0).regionEntry(148, 0, 1024, 1024, 0);
        want.regionEntry(1172, LAST - 1023, 1024, 1024, 7).zeros(1023).one(255).zeros(1023).one(128);
        fileIs(desk -> {
            desk.map(LAST - 1023, 16, 7).yes();
            desk.map(0, 16, 0).yes();
            desk.poke(LAST, 128).yes();
            desk.poke(1023, 255).yes();
        }, want);
    }

    private void pagesInTheFile() {
        Bytes want = new Bytes().header(4).notesEntry(180, 0);
        want.regionEntry(180, 0, 128, 192, 0).regionEntry(308, 192, 64, 64, 1);
        want.regionEntry(372, 256, 192, 256, 2);
        want.zeros(127).one(5).one(7).zeros(63).one(8).zeros(127).one(9).zeros(63);
        fileIs(desk -> {
            desk.map(0, 3, 0).yes();
            desk.map(192, 1, 1).yes();
            desk.map(256, 4, 2).yes();
            desk.poke(127, 5).yes();
            desk.poke(192, 7).yes();
            desk.poke(256, 8).yes();
            desk.poke(384, 9).yes();
        }, want);
    }

    private void pageEdges() {
        Desk desk = desk();
        desk.map(1024, 16, 0).yes();
        for (int page = 0; page < 16; page++) {
            int[] places = {64 * page, 64 * page + 63};
            for (int place : places) {
                desk.poke(1024 + place, 128).yes();
                desk.dump().is(116 + 64 * (page + 1));
                fourIs(desk, 100, 64 * (page + 1));
                desk.poke(1024 + place, 256).yes();
            }
        }
        desk.dump().is(116);
    }

    private void noPagesInTheFile() {
        Bytes want = new Bytes().header(4).notesEntry(180, 56).regionEntry(236, 0, 0, 1024, 0);
        want.regionEntry(236, 1024, 64, 64, 1).regionEntry(300, 4096, 0, 64, 2).threadNote(4);
        want.zeros(63).one(1);
        fileIs(desk -> {
            desk.map(0, 16, 0).yes();
            desk.map(1024, 1, 1).yes();
            desk.map(4096, 1, 2).yes();
            desk.poke(1023, 1).yes();
            desk.poke(1023, 0).yes();
            desk.poke(1087, 1).yes();
            desk.thread(4).is(0);
        }, want);
    }

    private void withoutGaps() {
        Desk desk = desk();
        int where = 52 + 32 * 7 + 56 * 3;
        for (int t = 0; t < 3; t++) {
            desk.thread(t).is(t);
        }
        for (int i = 5; i >= 0; i--) {
            desk.map(2048 * i, 16, 0).yes();
        }
        int[] pages = {3, 0, 16, 1, 0, 2};
        for (int i = 0; i < 6; i++) {
            desk.poke(2048 * i + Math.max(0, 64 * pages[i] - 1), pages[i]).yes();
        }
        desk.dump().is(where + 64 * 22);
        fourIs(desk, 56, 52 + 32 * 7);
        for (int i = 0; i < 6; i++) {
            fourIs(desk, 84 + 32 * i + 4, where);
            fourIs(desk, 84 + 32 * i + 8, 2048 * i);
            fourIs(desk, 84 + 32 * i + 16, 64 * pages[i]);
            where += 64 * pages[i];
            desk.byteAt(where - 1).is(i == 1 ? 3 : i == 4 ? 1 : pages[i]);
        }
        desk.byteAt(where).none();
    }

    private void notes() {
        sentence("NOTES, one for each thread, in the order in which they came", this::notesInOrder);
        sentence("NOTES: the id and the eight registers, any int", this::notesOfEdges);
    }

    private void notesInOrder() {
        Bytes want = new Bytes().header(1).notesEntry(84, 168);
        want.four(5).four(36).four(1).one(67, 79, 82, 69, 0, 0, 0, 0).four(3);
        want.four(1).four(2).four(3).four(4).four(5).four(6).four(7).four(8);
        want.threadNote(2).threadNote(1, 0, 0, 0, 0, 0, 0, 0, 9);
        fileIs(desk -> {
            for (int t = 0; t < 3; t++) {
                desk.thread(3 - t).is(t);
            }
            for (int r = 0; r < 8; r++) {
                desk.set(0, r, 1 + r).yes();
            }
            desk.set(2, 7, 9).yes();
        }, want);
    }

    private void notesOfEdges() {
        Bytes want = new Bytes().header(1).notesEntry(84, 112);
        want.threadNote(LEAST, -1, LAST, 0x80FF7F01, 0, 0, 0, 0, LEAST).threadNote(-1, 256, 65536, 16777216);
        fileIs(desk -> {
            desk.thread(LEAST).is(0);
            desk.thread(-1).is(1);
            int[] first = {-1, LAST, 0x80FF7F01, 0, 0, 0, 0, LEAST};
            for (int r = 0; r < 8; r++) {
                desk.set(0, r, first[r]).yes();
            }
            desk.set(1, 0, 256).yes();
            desk.set(1, 1, 65536).yes();
            desk.set(1, 2, 16777216).yes();
        }, want);
    }

    private void dump() {
        sentence("Promise 8: how many bytes: the least file", () -> desk().dump().is(84));
        sentence("Promise 8: how many bytes: the greatest file", this::greatestFile);
        sentence("Promise 8: a second file of the same process is the same", this::dumpTwice);
        sentence("Promise 8: the file is put out, and the process, the tape and the core stay", this::dumpChangesNoMore);
    }

    private static void greatest(Desk desk) {
        for (int i = 0; i < 6; i++) {
            desk.map(2048 * i, 16, 0).yes();
            desk.poke(2048 * i + 1023, 1 + i).yes();
        }
        for (int t = 0; t < 3; t++) {
            desk.thread(t).is(t);
        }
    }

    private void greatestFile() {
        Desk desk = desk();
        greatest(desk);
        desk.dump().is(6588);
        for (int i = 0; i < 6; i++) {
            desk.byteAt(444 + 1024 * i + 1022).is(0);
            desk.byteAt(444 + 1024 * i + 1023).is(1 + i);
        }
        desk.byteAt(6588).none();
        desk.copy().is(6588);
        desk.right(6);
        for (int i = 0; i < 6; i++) {
            desk.peek(2048 * i + 1023).is(1 + i);
            desk.peek(2048 * i + 1024).none();
        }
    }

    private void dumpTwice() {
        unchanged(desk -> {
            busy(desk);
            desk.dump().is(452);
        }, Desk::dump, 452);
    }

    private void dumpChangesNoMore() {
        Desk desk = desk();
        busy(desk);
        desk.dump().is(452);
        desk.error(0).is(2);
        desk.error(1).is(16);
        desk.peek(64).is(200);
        desk.cut(397).no();
        desk.cut(396).yes();
        desk.right(2);
        desk.peek(319).is(9);
        desk.peek(192).is(0);
        desk.peek(256).is(202);
        desk.poke(127, 0).yes();
        desk.thread(8).is(2);
    }

    private void byteAt() {
        sentence("Promise 9: 0 .. 255", this::byteAtValues);
        sentence("Promise 9: NONE if there is none: before the first and behind the last", this::byteAtBeyond);
        sentence("Promise 9: NONE without a file", this::byteAtWithoutFile);
        sentence("Promise 9: of the latest file: nothing of a longer one before it", this::byteAtOfTheLatest);
        sentence("Promise 9: of the latest file: not of the process as it is now", this::byteAtOfTheFile);
        sentence("Promise 9: it changes nothing", this::byteAtChangesNothing);
    }

    private void byteAtValues() {
        Desk desk = desk();
        desk.map(0, 1, 0).yes();
        int[] values = {0, 1, 127, 128, 254, 255};
        for (int i = 0; i < values.length; i++) {
            desk.poke(i, values[i]).yes();
        }
        desk.dump().is(180);
        for (int i = 0; i < values.length; i++) {
            desk.byteAt(116 + i).is(values[i]);
        }
    }

    private void byteAtBeyond() {
        Desk desk = desk();
        desk.dump().is(84);
        desk.byteAt(0).is(127);
        desk.byteAt(83).is(0);
        int[] none = {-1, 84, 85, 8192, LAST, LEAST, LEAST + 1};
        for (int k : none) {
            desk.byteAt(k).none();
        }
    }

    private void byteAtWithoutFile() {
        Desk desk = desk();
        desk.map(0, 1, 0).yes();
        desk.put(0, 5).yes();
        int[] none = {0, 1, -1, LAST, LEAST};
        for (int k : none) {
            desk.byteAt(k).none();
        }
    }

    private void byteAtOfTheLatest() {
        Desk desk = desk();
        desk.map(64, 1, 0).yes();
        desk.poke(127, 1).yes();
        desk.dump().is(180);
        desk.byteAt(179).is(1);
        desk.unmap(64).yes();
        desk.dump().is(84);
        desk.byteAt(83).is(0);
        desk.byteAt(84).none();
        desk.byteAt(179).none();
    }

    private void byteAtOfTheFile() {
        Desk desk = desk();
        desk.map(64, 1, 0).yes();
        desk.poke(64, 1).yes();
        desk.dump().is(180);
        desk.poke(64, 2).yes();
        desk.byteAt(116).is(1);
        desk.thread(1).is(0);
        desk.byteAt(179).is(0);
        desk.byteAt(180).none();
        desk.unmap(64).yes();
        desk.byteAt(116).is(1);
        desk.copy().is(180);
        desk.put(116, 3).yes();
        desk.cut(10).yes();
        desk.byteAt(116).is(1);
    }

    private void byteAtChangesNothing() {
        unchanged(Sentences::busy, desk -> desk.byteAt(0), 127);
        unchanged(Sentences::busy, desk -> desk.byteAt(452), -1);
        unchanged(Sentences::busy, desk -> desk.byteAt(-1), -1);
    }

    private void copy() {
        sentence("Promise 10: the tape has the latest file's bytes: how many", this::copied);
        sentence("Promise 10: 0 without one", this::copyWithoutFile);
        sentence("Promise 10: over a longer tape and over a shorter one", this::copyOverOthers);
        sentence("Promise 10: of the latest file, not of the process as it is now", this::copyOfTheLatest);
    }

    private void copied() {
        Desk desk = desk();
        threeRegions(desk);
        desk.dump().is(428);
        desk.copy().is(428);
        desk.cut(429).no();
        desk.put(429, 0).no();
        desk.right(3);
        desk.peek(64).is(201);
        desk.peek(1028).is(0x0A);
        desk.peek(LAST).is(200);
        desk.register(0, 8).is(9);
        desk.byteAt(427).is(200);
        desk.byteAt(428).none();
    }

    private void copyWithoutFile() {
        Desk desk = desk();
        desk.copy().is(0);
        desk.cut(1).no();
        desk.put(0, 1).yes();
        desk.copy().is(0);
        desk.cut(1).no();
        desk.wrong(1, 0);
    }

    private void copyOverOthers() {
        Desk desk = desk();
        desk.dump().is(84);
        desk.put(0, 5).yes();
        desk.copy().is(84);
        desk.right(0);
        desk.put(0, 5).yes();
        desk.put(84, 5).yes();
        desk.copy().is(84);
        desk.cut(85).no();
        desk.right(0);
        desk.cut(3).yes();
        desk.copy().is(84);
        desk.cut(84).yes();
        desk.right(0);
    }

    private void copyOfTheLatest() {
        Desk desk = desk();
        desk.thread(3).is(0);
        desk.dump().is(140);
        desk.thread(4).is(1);
        desk.copy().is(140);
        desk.right(0);
        desk.core(1).is(1);
        desk.dump().is(196);
        desk.right(0);
        desk.core(1).is(1);
        desk.copy().is(196);
        desk.right(0);
        desk.core(1).is(2);
    }

    private void put() {
        sentence("Promise 11: byte k of the tape, its first and its last", this::putFirstAndLast);
        sentence("Promise 11: the lowest 8 bits of v", this::putLowestBits);
        sentence("Promise 11: k may be just behind the last one: then it is one longer", this::putJustBehind);
        sentence("Promise 11: false if there is none such", this::putNone);
        sentence("Promise 11: after false the tape is as it was", this::putRefused);
        sentence("Promise 11: false if there is no room", this::putNoRoom);
    }

    private void putFirstAndLast() {
        Desk desk = desk();
        desk.map(0, 1, 0).yes();
        desk.poke(63, 9).yes();
        desk.dump().is(180);
        desk.copy().is(180);
        desk.put(0, 1).yes();
        desk.wrong(2, 0);
        desk.put(0, 127).yes();
        desk.right(1);
        desk.peek(63).is(9);
        desk.put(179, 10).yes();
        desk.cut(181).no();
        desk.right(1);
        desk.peek(62).is(0);
        desk.peek(63).is(10);
        desk.byteAt(179).is(9);
    }

    private void putLowestBits() {
        Desk desk = desk();
        desk.map(0, 1, 0).yes();
        desk.poke(63, 9).yes();
        desk.dump().is(180);
        desk.copy().is(180);
        int[] values = {255, 256, 257, -1, -128, -256, LAST, LEAST, 0x12345678};
        int[] bytes = {255, 0, 1, 255, 128, 0, 255, 0, 0x78};
        for (int i = 0; i < values.length; i++) {
            desk.put(116 + i, 99).yes();
            desk.put(116 + i, values[i]).yes();
        }
        desk.cut(179).yes();
        desk.put(179, -2).yes();
        desk.right(1);
        for (int i = 0; i < values.length; i++) {
            desk.peek(i).is(bytes[i]);
        }
        desk.peek(values.length).is(0);
        desk.peek(63).is(254);
    }

    private void putJustBehind() {
        Desk desk = desk();
        for (int k = 0; k < 60; k++) {
            desk.put(k + 1, 0).no();
            desk.put(k, k).yes();
            desk.cut(k + 2).no();
            desk.cut(k + 1).yes();
        }
        desk.wrong(2, 0);
        Desk small = desk("byte by byte");
        small.tape(new Bytes().header(1).notesEntry(84, 0));
        small.right(0);
        small.cut(83).yes();
        small.put(83, 1).yes();
        small.wrong(3, 80);
    }

    private void putNone() {
        Desk desk = desk();
        int[] none = {-1, 1, 2, 8191, 8192, LAST, LEAST};
        for (int k : none) {
            desk.put(k, 1).no();
        }
        desk.cut(1).no();
        desk.dump().is(84);
        desk.copy().is(84);
        int[] noneOfMore = {-1, 85, 86, 8191, 8192, LAST, LEAST, LEAST + 84};
        for (int k : noneOfMore) {
            desk.put(k, 1).no();
        }
        desk.cut(85).no();
        desk.right(0);
    }

    private void putRefused() {
        unchanged(Sentences::busy, desk -> desk.put(-1, 1), 0);
        unchanged(Sentences::busy, desk -> desk.put(397, 1), 0);
        unchanged(Sentences::busy, desk -> desk.put(LAST, 1), 0);
        unchanged(Sentences::busy, desk -> desk.put(LEAST, 1), 0);
        unchanged(desk -> { }, desk -> desk.put(1, 1), 0);
    }

    /** It takes more calls than are promised: no file is long enough to fill the tape with fewer. */
    private void putNoRoom() {
        CoreDesk desk = new CoreDesk();
        for (int k = 0; k < 8192; k++) {
            due.yes("put(" + k + ", 1)", desk.put(k, 1));
        }
        due.no("put(8192, 1)", desk.put(8192, 1));
        due.no("cut(8193)", desk.cut(8193));
        due.yes("put(8191, 2)", desk.put(8191, 2));
        due.yes("cut(8192)", desk.cut(8192));
        due.yes("cut(8191)", desk.cut(8191));
        due.yes("put(8191, 1) again", desk.put(8191, 1));
    }

    private void cut() {
        sentence("Promise 12: the tape has its first n bytes alone", this::cutFirst);
        sentence("Promise 12: all of them, and none", this::cutAllAndNone);
        sentence("Promise 12: false if it has less", this::cutLess);
        sentence("Promise 12: false if n is below 0", this::cutBelowZero);
        sentence("Promise 12: after false the tape is as it was", this::cutRefused);
    }

    private void cutFirst() {
        Desk desk = desk();
        desk.map(0, 2, 0).yes();
        desk.poke(0, 5).yes();
        desk.poke(64, 6).yes();
        desk.dump().is(244);
        desk.copy().is(244);
        desk.cut(243).yes();
        desk.wrong(1, 88);
        desk.cut(244).no();
        desk.put(244, 0).no();
        desk.put(243, 7).yes();
        desk.right(1);
        desk.peek(0).is(5);
        desk.peek(64).is(6);
        desk.peek(127).is(7);
        desk.cut(51).yes();
        desk.wrong(1, 51);
        desk.byteAt(243).is(0);
        desk.dump().is(244);
    }

    private void cutAllAndNone() {
        Desk desk = desk();
        desk.dump().is(84);
        desk.copy().is(84);
        desk.cut(84).yes();
        desk.right(0);
        desk.cut(0).yes();
        desk.wrong(1, 0);
        desk.cut(1).no();
        desk.cut(0).yes();
        desk.put(0, 127).yes();
        desk.wrong(1, 1);
    }

    private void cutLess() {
        Desk desk = desk();
        desk.cut(1).no();
        desk.dump().is(84);
        desk.copy().is(84);
        int[] more = {85, 86, 8192, LAST};
        for (int n : more) {
            desk.cut(n).no();
        }
        desk.put(85, 0).no();
        desk.right(0);
    }

    private void cutBelowZero() {
        Desk desk = desk();
        desk.cut(-1).no();
        desk.dump().is(84);
        desk.copy().is(84);
        int[] below = {-1, -84, LEAST, LEAST + 84};
        for (int n : below) {
            desk.cut(n).no();
        }
        desk.cut(84).yes();
        desk.right(0);
    }

    private void cutRefused() {
        unchanged(Sentences::busy, desk -> desk.cut(-1), 0);
        unchanged(Sentences::busy, desk -> desk.cut(397), 0);
        unchanged(Sentences::busy, desk -> desk.cut(LAST), 0);
        unchanged(Sentences::busy, desk -> desk.cut(LEAST), 0);
        unchanged(Sentences::busy, desk -> desk.cut(396), 1);
    }
}
