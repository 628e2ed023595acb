/** What is WRONG with a tape's header and program headers, where it is told, and in which order. */
public final class LoadTest extends Sentences {
    // Of the tape that whole() makes: three program headers, two notes, two regions.
    private static final int NOTES_ENTRY = 52;
    private static final int FIRST_ENTRY = 84;
    private static final int SECOND_ENTRY = 116;
    private static final int[] REGION_ENTRIES = {FIRST_ENTRY, SECOND_ENTRY};
    private static final int NOTES = 148;
    private static final int FIRST = 260;
    private static final int SECOND = 324;
    private static final int END = 388;

    // Of a program header.
    private static final int WHERE = 4;
    private static final int ADDRESS = 8;
    private static final int ZERO = 12;
    private static final int IN_FILE = 16;
    private static final int IN_MEMORY = 20;
    private static final int FLAGS = 24;
    private static final int ALIGNMENT = 28;

    private static final int[] HEADER_FIELDS = {16, 18, 20, 24, 28, 32, 36, 40, 42, 44, 46, 48, 50, 52};

    public static void main(String[] args) {
        new LoadTest().run();
    }

    @Override
    void tests() {
        header();
        fields();
        places();
        order();
    }

    private static Bytes whole() {
        Bytes b = new Bytes().header(3).notesEntry(NOTES, 112);
        b.regionEntry(FIRST, 128, 64, 128, 5).regionEntry(SECOND, 4096, 64, 64, 6);
        b.threadNote(10, 1, 2, 3, 4, 5, 6, 7, 8).threadNote(11, -1);
        b.one(1, 2, 3, 4).zeros(60).zeros(60).one(5, 6, 7, 8);
        return b;
    }

    private void wrong(String name, Bytes tape, int kind, int place) {
        Desk desk = desk(name);
        desk.tape(tape);
        desk.wrong(kind, place);
        desk.core(0).none();
    }

    private void right(String name, Bytes tape, int regions) {
        Desk desk = desk(name);
        desk.tape(tape);
        desk.right(regions);
    }

    /** Of a whole tape one field alone is changed, and it is told at the field. */
    private void wrongField(int kind, int entry, int field, int... values) {
        for (int v : values) {
            wrong("field at " + (entry + field) + " is " + v, whole().changeFour(entry + field, v), kind, entry + field);
        }
    }

    private void rightField(int entry, int field, int... values) {
        for (int v : values) {
            right("field at " + (entry + field) + " is " + v, whole().changeFour(entry + field, v), 2);
        }
    }

    private void header() {
        sentence("1 the tape has less than 52 bytes (told at its end)", this::lessThanAHeader);
        sentence("2 a byte of the header that is not as above (at its first byte)", this::headerBytes);
        sentence("2 a field of the header that is not as above (at its first byte)", this::headerFields);
        sentence("2 the first byte or field that is not as above", this::headerFirst);
        sentence("2 there must be 1 to 7 program headers", this::headerCounts);
        sentence("1 the program headers go beyond the tape (at the tape's end)", this::programHeadersBeyond);
    }

    private void lessThanAHeader() {
        Desk desk = desk();
        desk.dump().is(84);
        desk.copy().is(84);
        for (int n = 51; n >= 0; n--) {
            desk.cut(n).yes();
            desk.wrong(1, n);
        }
        wrong("51 wrong bytes", new Bytes().zeros(51), 1, 51);
        wrong("52 wrong bytes", new Bytes().zeros(52), 2, 0);
        wrong("51 bytes, the first one wrong", whole().change(0, 0).cut(51), 1, 51);
        wrong("52 bytes, the first one wrong", whole().change(0, 0).cut(52), 2, 0);
        wrong("52 bytes, the last one wrong", whole().change(51, 1).cut(52), 2, 50);
    }

    private void headerBytes() {
        for (int k = 0; k < 16; k++) {
            int due = whole().at(k);
            int[] others = {due + 1, due - 1, due ^ 128, 255 - due};
            for (int other : others) {
                wrong("byte " + k + " is " + other, whole().change(k, other), 2, k);
            }
        }
        right("no byte is another", whole(), 2);
    }

    private void headerFields() {
        for (int f = 0; f + 1 < HEADER_FIELDS.length; f++) {
            for (int k = HEADER_FIELDS[f]; k < HEADER_FIELDS[f + 1]; k++) {
                int due = whole().at(k);
                int[] others = {due ^ 8, due ^ 128, 255 - due};
                for (int other : others) {
                    wrong("byte " + k + " is " + other, whole().change(k, other), 2, HEADER_FIELDS[f]);
                }
            }
        }
    }

    private void headerFirst() {
        Bytes b = whole();
        for (int f = HEADER_FIELDS.length - 2; f >= 0; f--) {
            b.change(HEADER_FIELDS[f], 99);
            wrong("all from field " + f + " on", b, 2, HEADER_FIELDS[f]);
        }
        for (int k = 15; k >= 0; k--) {
            b.change(k, 99);
            wrong("all from byte " + k + " on", b, 2, k);
        }
    }

    private static Bytes regionsWithoutBytes(int programHeaders) {
        int end = 52 + 32 * programHeaders;
        Bytes b = new Bytes().header(programHeaders).notesEntry(end, 0);
        for (int i = 1; i < programHeaders; i++) {
            b.regionEntry(end, 1024 * (8 - i), 0, 1024, i);
        }
        return b;
    }

    private void headerCounts() {
        int[] none = {0, 8, 9, 255, 256, 257, 263, 512 + 3, 32768 + 3, 65535};
        for (int count : none) {
            wrong(count + " program headers", whole().change(44, count).change(45, count >> 8), 2, 44);
        }
        for (int count = 1; count <= 7; count++) {
            right(count + " program headers", regionsWithoutBytes(count), count - 1);
        }
        Bytes eight = new Bytes().header(8).notesEntry(308, 0);
        for (int i = 0; i < 7; i++) {
            eight.regionEntry(308, 64 * i, 0, 64, 0);
        }
        wrong("eight whole ones", eight, 2, 44);
        wrong("none at all", new Bytes().header(0), 2, 44);
    }

    private void programHeadersBeyond() {
        for (int count = 1; count <= 7; count++) {
            int end = 52 + 32 * count;
            wrong(count + ", a byte short", regionsWithoutBytes(count).cut(end - 1), 1, end - 1);
            right(count + ", whole", regionsWithoutBytes(count), count - 1);
            wrong(count + ", none there", new Bytes().header(count), 1, 52);
            wrong(count + ", a byte there", new Bytes().header(count).zeros(1), 1, 53);
            wrong(count + ", a byte short, and all of them wrong",
                new Bytes().header(count).zeros(32 * count - 1), 1, end - 1);
            wrong(count + ", wrong alone", new Bytes().header(count).zeros(32 * count), 3, 52);
        }
        wrong("seven of which three are there", whole().change(44, 7).cut(275), 1, 275);
    }

    private void fields() {
        sentence("3 kind 4 of the first one, 1 of others", this::kinds);
        sentence("3 where: not below the end of the program headers", this::wheres);
        sentence("3 address: 0 of notes", this::addressOfNotes);
        sentence("3 address: of regions a multiple of 64, not below 0", this::addressesOfRegions);
        sentence("3 the field behind the address is 0", this::zeroFields);
        sentence("3 bytes in the file: not below 0", this::inFileBelowZero);
        sentence("3 bytes in the file: of regions a multiple of 64", this::inFileMultiples);
        sentence("3 bytes in the file: of regions at most 1024", this::inFileMost);
        sentence("3 in memory: of notes those in the file", this::inMemoryOfNotes);
        sentence("3 in memory: of regions a multiple of 64", this::inMemoryMultiples);
        sentence("3 in memory: of regions 64 .. 1024", this::inMemoryLeastAndMost);
        sentence("3 in memory: of regions not less than those in the file", this::inMemoryNotLess);
        sentence("3 in memory: of regions not beyond the last address", this::inMemoryLastAddress);
        sentence("3 flags: 0 of notes, 0 .. 7 of regions", this::flagFields);
        sentence("3 4 or 64", this::alignments);
        sentence("3 field by field (at its first byte)", this::fieldByField);
        sentence("3 each of a field's four bytes counts", this::fieldBytes);
    }

    private void kinds() {
        wrongField(3, NOTES_ENTRY, 0, 1, 0, 3, 5, -1, 260, 4 + (1 << 16), 4 + LEAST);
        for (int entry : REGION_ENTRIES) {
            wrongField(3, entry, 0, 4, 0, 2, -1, 257, 1 + (1 << 16), 1 + LEAST);
        }
    }

    private void wheres() {
        int[] entries = {NOTES_ENTRY, FIRST_ENTRY, SECOND_ENTRY};
        for (int entry : entries) {
            wrongField(3, entry, WHERE, NOTES - 1, NOTES - 4, 116, 52, 1, 0, -1, LEAST, LEAST + NOTES);
        }
        for (int count = 1; count <= 7; count++) {
            int end = 52 + 32 * count;
            right("notes at the end of " + count, regionsWithoutBytes(count), count - 1);
            wrong("notes a byte before it", regionsWithoutBytes(count).changeFour(56, end - 1), 3, 56);
            if (count > 1) {
                int last = end - 32 + WHERE;
                wrong("a region a byte before it", regionsWithoutBytes(count).changeFour(last, end - 1), 3, last);
            }
        }
        right("a region with bytes at it", new Bytes().header(2).notesEntry(180, 0)
            .regionEntry(116, 0, 64, 64, 0).zeros(64), 1);
        wrong("a region with bytes before it", new Bytes().header(2).notesEntry(180, 0)
            .regionEntry(115, 0, 64, 64, 0).zeros(64), 3, 88);
    }

    private void addressOfNotes() {
        wrongField(3, NOTES_ENTRY, ADDRESS, 1, 64, -1, -64, 256, LAST, LEAST, LAST_PAGE);
    }

    private void addressesOfRegions() {
        for (int entry : REGION_ENTRIES) {
            wrongField(3, entry, ADDRESS, 1, 32, 63, 65, 127, 129, LAST, LAST_PAGE - 1, LAST_PAGE + 1);
            wrongField(3, entry, ADDRESS, -1, -64, -128, LEAST, LEAST + 64);
            rightField(entry, ADDRESS, 0, 1024, 65536, 1073741824, LAST_PAGE - 64);
        }
        rightField(SECOND_ENTRY, ADDRESS, LAST_PAGE);
    }

    private void zeroFields() {
        int[] entries = {NOTES_ENTRY, FIRST_ENTRY, SECOND_ENTRY};
        for (int entry : entries) {
            wrongField(3, entry, ZERO, 1, -1, 64, 256, 65536, LEAST);
        }
    }

    private void inFileBelowZero() {
        for (int entry : REGION_ENTRIES) {
            wrongField(3, entry, IN_FILE, -64, -1024, LEAST, -1);
            rightField(entry, IN_FILE, 0);
        }
        int[] below = {-1, -4, -20, -56, LEAST};
        for (int n : below) {
            Bytes b = whole().changeFour(NOTES_ENTRY + IN_FILE, n).changeFour(NOTES_ENTRY + IN_MEMORY, n);
            wrong("notes of " + n + " bytes", b, 3, NOTES_ENTRY + IN_FILE);
        }
        Bytes none = whole().changeFour(NOTES_ENTRY + IN_FILE, 0).changeFour(NOTES_ENTRY + IN_MEMORY, 0);
        right("notes of 0 bytes", none, 2);
    }

    private void inFileMultiples() {
        for (int entry : REGION_ENTRIES) {
            wrongField(3, entry, IN_FILE, 1, 4, 32, 63, 65, 1023);
        }
        right("notes of 20 bytes", new Bytes().header(1).notesEntry(84, 20).noteHead(0, 2), 0);
    }

    /** A desk whose tape has one region of 16 pages, all in the file. */
    private Desk sixteenPages(String name) {
        Desk desk = desk(name);
        desk.map(0, 16, 0).yes();
        desk.poke(1023, 1).yes();
        desk.dump().is(1140);
        desk.copy().is(1140);
        return desk;
    }

    private void inFileMost() {
        Desk desk = sixteenPages("1024 in the file");
        desk.right(1);
        desk.peek(1023).is(1);
        desk = sixteenPages("1088 in the file");
        for (int k = 0; k < 64; k++) {
            desk.put(1140 + k, 2).yes();
        }
        desk.right(1);
        desk.putFour(FIRST_ENTRY + IN_FILE, 1088);
        desk.wrong(3, FIRST_ENTRY + IN_FILE);
        desk.putFour(FIRST_ENTRY + IN_MEMORY, 1088);
        desk.wrong(3, FIRST_ENTRY + IN_FILE);
        for (int entry : REGION_ENTRIES) {
            wrongField(3, entry, IN_FILE, 1025, 1088, 2048, LAST, LAST_PAGE);
        }
        desk = sixteenPages("notes of more than 1024");
        Bytes notes = new Bytes().header(1).notesEntry(84, 1056).noteHead(1036, 9);
        for (int k = 0; k < notes.length(); k++) {
            desk.put(k, notes.at(k)).yes();
        }
        desk.right(0);
    }

    private void inMemoryOfNotes() {
        wrongField(3, NOTES_ENTRY, IN_MEMORY, 111, 113, 0, 56, 168, -112, LEAST + 112, 112 + 256);
        Bytes none = new Bytes().header(1).notesEntry(84, 0);
        right("none in both", none, 0);
        wrong("none in the file alone", none.changeFour(72, 1), 3, 72);
    }

    private void inMemoryMultiples() {
        for (int entry : REGION_ENTRIES) {
            wrongField(3, entry, IN_MEMORY, 65, 96, 127, 129, 1023);
            rightField(entry, IN_MEMORY, 128, 192, 960);
        }
    }

    private void inMemoryLeastAndMost() {
        for (int entry : REGION_ENTRIES) {
            wrongField(3, entry, IN_MEMORY, 0, -64, -1024, LEAST, 1025, 1088, 2048, LAST, LAST_PAGE, LEAST + 64);
            rightField(entry, IN_MEMORY, 64, 1024);
            Bytes none = whole().changeFour(entry + IN_FILE, 0);
            wrong("none in the file and in memory", none.changeFour(entry + IN_MEMORY, 0), 3, entry + IN_MEMORY);
            wrong("none in the file, less in memory", none.changeFour(entry + IN_MEMORY, -64), 3, entry + IN_MEMORY);
            right("none in the file, a page in memory", none.changeFour(entry + IN_MEMORY, 64), 2);
        }
    }

    private void inMemoryNotLess() {
        for (int entry : REGION_ENTRIES) {
            Bytes b = whole().changeFour(entry + IN_FILE, 192).changeFour(entry + IN_MEMORY, 128);
            wrong("a page less in memory", b, 3, entry + IN_MEMORY);
            b.changeFour(entry + IN_FILE, 1024).changeFour(entry + IN_MEMORY, 960);
            wrong("a page less than 1024", b, 3, entry + IN_MEMORY);
        }
        Bytes two = new Bytes().header(2).notesEntry(244, 0).regionEntry(116, 0, 128, 128, 0).zeros(128);
        right("as many in both", two, 1);
        wrong("a page less", two.changeFour(FIRST_ENTRY + IN_MEMORY, 64), 3, FIRST_ENTRY + IN_MEMORY);
        right("a page more", two.changeFour(FIRST_ENTRY + IN_MEMORY, 192), 1);
    }

    private void inMemoryLastAddress() {
        for (int pages = 1; pages <= 16; pages++) {
            Bytes b = whole().changeFour(SECOND_ENTRY + IN_MEMORY, 64 * pages);
            right(pages + " last pages", b.changeFour(SECOND_ENTRY + ADDRESS, LAST - 64 * pages + 1), 2);
            if (pages > 1) {
                b.changeFour(SECOND_ENTRY + ADDRESS, LAST - 64 * pages + 1 + 64);
                wrong(pages + " pages, one of them beyond", b, 3, SECOND_ENTRY + IN_MEMORY);
                b.changeFour(SECOND_ENTRY + ADDRESS, LAST_PAGE);
                wrong(pages + " pages, all but one beyond", b, 3, SECOND_ENTRY + IN_MEMORY);
            }
        }
    }

    private void flagFields() {
        wrongField(3, NOTES_ENTRY, FLAGS, 1, 4, 7, 8, -1, 256, LEAST);
        for (int entry : REGION_ENTRIES) {
            wrongField(3, entry, FLAGS, -1, 8, 9, 256, 65536, LAST, LEAST, LEAST + 7);
            for (int flags = 0; flags <= 7; flags++) {
                rightField(entry, FLAGS, flags);
            }
        }
    }

    private void alignments() {
        wrongField(3, NOTES_ENTRY, ALIGNMENT, 64, 0, 3, 5, -4, 260, LEAST + 4);
        for (int entry : REGION_ENTRIES) {
            wrongField(3, entry, ALIGNMENT, 4, 0, 63, 65, 128, -64, 320, LEAST + 64);
        }
    }

    private void fieldByField() {
        int[] entries = {NOTES_ENTRY, FIRST_ENTRY, SECOND_ENTRY};
        for (int entry : entries) {
            Bytes b = whole();
            for (int field = ALIGNMENT; field >= 0; field -= 4) {
                b.changeFour(entry + field, -1);
                wrong("all fields from " + (entry + field) + " on", b, 3, entry + field);
            }
        }
    }

    private void fieldBytes() {
        int[] entries = {NOTES_ENTRY, FIRST_ENTRY, SECOND_ENTRY};
        for (int entry : entries) {
            for (int k = 0; k < 32; k++) {
                int field = k / 4 * 4;
                // A changed "where" or address may be right, or wrong in another way.
                if (field == WHERE || entry != NOTES_ENTRY && field == ADDRESS) {
                    continue;
                }
                // The number in the file alone may grow; then it is no more the one in memory.
                boolean grows = entry == NOTES_ENTRY && field == IN_FILE && k % 4 != 3;
                int told = entry + (grows ? IN_MEMORY : field);
                wrong("byte " + (entry + k), whole().change(entry + k, whole().at(entry + k) ^ 129), 3, told);
            }
        }
    }

    private void places() {
        sentence("1 where its bytes are and how many together are beyond the tape", this::bytesBeyond);
        sentence("1 beyond the tape: together they wrap round", this::bytesBeyondWithWrap);
        sentence("1 beyond the tape: of none, too", this::noBytesBeyond);
        sentence("4 it has bytes of the file in common with one before it", this::commonBytes);
        sentence("4 with one before it: the notes", this::commonWithNotes);
        sentence("4 with one before it that has some", this::commonWithNone);
        sentence("4 with each one before it", this::commonWithEach);
        sentence("5 it has addresses in common with a region before it", this::commonAddresses);
        sentence("5 with each region before it", this::commonAddressesWithEach);
        sentence("5 a region's addresses, not those of the notes", this::noAddressesOfNotes);
    }

    private void bytesBeyond() {
        wrongField(1, NOTES_ENTRY, WHERE, END - 111, END - 110, END, END + 1);
        for (int entry : REGION_ENTRIES) {
            wrongField(1, entry, WHERE, END - 63, END - 1, END, END + 1, 8192, 65536);
        }
        rightField(SECOND_ENTRY, WHERE, END - 64);
        Bytes shorter = whole().cut(END - 1).changeFour(FIRST_ENTRY + IN_FILE, 0);
        right("a byte less of the tape, a byte less where", shorter.changeFour(SECOND_ENTRY + WHERE, SECOND - 1), 2);
        wrong("a byte less of the tape", whole().cut(END - 1), 1, SECOND_ENTRY + WHERE);
        wrong("a region's bytes less", whole().cut(SECOND), 1, SECOND_ENTRY + WHERE);
        wrong("and a byte of the other", whole().cut(SECOND - 1), 1, FIRST_ENTRY + WHERE);
        wrong("both regions' bytes less", whole().cut(FIRST), 1, FIRST_ENTRY + WHERE);
        wrong("and a byte of the notes", whole().cut(FIRST - 1), 1, NOTES_ENTRY + WHERE);
        wrong("no byte behind the program headers", whole().cut(NOTES), 1, NOTES_ENTRY + WHERE);
        Bytes notes = new Bytes().header(1).notesEntry(84, 20).noteHead(0, 2);
        right("notes to the tape's end", notes, 0);
        wrong("notes a byte beyond", notes.cut(103), 1, 56);
    }

    private void bytesBeyondWithWrap() {
        wrongField(1, NOTES_ENTRY, WHERE, LAST, LAST - 111, LAST - 112);
        for (int entry : REGION_ENTRIES) {
            wrongField(1, entry, WHERE, LAST, LAST - 63, LAST - 64);
        }
        int[] many = {LAST, LAST - NOTES, LAST - NOTES + 1, 1 << 30};
        for (int n : many) {
            Bytes b = whole().changeFour(NOTES_ENTRY + IN_FILE, n).changeFour(NOTES_ENTRY + IN_MEMORY, n);
            wrong("notes of " + n + " bytes", b, 1, NOTES_ENTRY + WHERE);
            wrong("and at the last place", b.changeFour(NOTES_ENTRY + WHERE, LAST), 1, NOTES_ENTRY + WHERE);
        }
    }

    private void noBytesBeyond() {
        for (int entry : REGION_ENTRIES) {
            Bytes none = whole().changeFour(entry + IN_FILE, 0);
            right("none at the tape's end", none.changeFour(entry + WHERE, END), 2);
            wrong("none a byte beyond", none.changeFour(entry + WHERE, END + 1), 1, entry + WHERE);
            wrong("none at the last place", none.changeFour(entry + WHERE, LAST), 1, entry + WHERE);
        }
        Bytes noNotes = new Bytes().header(1).notesEntry(85, 0);
        wrong("no notes a byte beyond", noNotes, 1, 56);
        right("no notes at the end", noNotes.zeros(1), 0);
    }

    private void commonBytes() {
        wrongField(4, SECOND_ENTRY, WHERE, FIRST, FIRST + 1, FIRST + 32, SECOND - 1);
        rightField(SECOND_ENTRY, WHERE, SECOND);
        Bytes b = whole().changeFour(FIRST_ENTRY + WHERE, SECOND);
        right("just before the first one's", b.changeFour(SECOND_ENTRY + WHERE, FIRST), 2);
        for (int shift = 1; shift <= 64; shift += 21) {
            wrong("from before by " + shift, b.changeFour(SECOND_ENTRY + WHERE, FIRST + shift), 4, SECOND_ENTRY + WHERE);
        }
        Bytes round = new Bytes().header(3).notesEntry(148, 0).regionEntry(212, 0, 64, 64, 0);
        round.regionEntry(148, 64, 192, 192, 0).zeros(192);
        wrong("round the first one's", round, 4, SECOND_ENTRY + WHERE);
        Bytes within = new Bytes().header(3).notesEntry(148, 0).regionEntry(148, 0, 192, 192, 0);
        within.regionEntry(212, 192, 64, 64, 0).zeros(192);
        wrong("within the first one's", within, 4, SECOND_ENTRY + WHERE);
    }

    private void commonWithNotes() {
        for (int entry : REGION_ENTRIES) {
            wrongField(4, entry, WHERE, NOTES, NOTES + 1, FIRST - 64, FIRST - 1);
        }
        Bytes one = new Bytes().header(2).notesEntry(180, 20).regionEntry(116, 0, 64, 64, 0);
        one.zeros(64).noteHead(0, 2).zeros(64);
        right("just before the notes", one, 1);
        wrong("a byte of the notes", one.changeFour(FIRST_ENTRY + WHERE, 117), 4, FIRST_ENTRY + WHERE);
        wrong("round the notes", one.changeFour(FIRST_ENTRY + WHERE, 158), 4, FIRST_ENTRY + WHERE);
        wrong("the notes' last byte", one.changeFour(FIRST_ENTRY + WHERE, 199), 4, FIRST_ENTRY + WHERE);
        right("just behind the notes", one.changeFour(FIRST_ENTRY + WHERE, 200), 1);
        for (int place = 116; place < 180; place++) {
            wrong("notes of one byte at " + place, regionBehindHeaders(place), 4, FIRST_ENTRY + WHERE);
        }
        // Apart from the region it is told later, as too few bytes for a note.
        wrong("notes of one byte at 180", regionBehindHeaders(180), 6, 180);
    }

    private static Bytes regionBehindHeaders(int noteByte) {
        return new Bytes().header(2).notesEntry(noteByte, 1).regionEntry(116, 0, 64, 64, 0).zeros(65);
    }

    private void commonWithNone() {
        Bytes none = whole().changeFour(SECOND_ENTRY + IN_FILE, 0);
        int[] places = {NOTES, NOTES + 8, FIRST - 1, FIRST, FIRST + 8, SECOND - 1, SECOND};
        for (int where : places) {
            right("it has none, at " + where, none.changeFour(SECOND_ENTRY + WHERE, where), 2);
        }
        Bytes before = whole().changeFour(FIRST_ENTRY + IN_FILE, 0);
        int[] placesBefore = {SECOND - 1, SECOND, SECOND + 1, SECOND + 63, END};
        for (int where : placesBefore) {
            right("the one before has none, at " + where, before.changeFour(FIRST_ENTRY + WHERE, where), 2);
        }
        Bytes noNotes = new Bytes().header(2).notesEntry(117, 0).regionEntry(116, 0, 64, 64, 0).zeros(64);
        right("there are no notes within it", noNotes, 1);
    }

    private void commonWithEach() {
        for (int other = 1; other <= 2; other++) {
            Bytes b = new Bytes().header(4).notesEntry(180, 0);
            for (int i = 1; i <= 3; i++) {
                b.regionEntry(180 + 64 * (i == 3 ? other - 1 : i - 1), 64 * i, 64, 64, 0);
            }
            wrong("the third with number " + other, b.zeros(192), 4, 148 + WHERE);
            b.changeFour(148 + WHERE, 308);
            right("the third with none", b, 3);
        }
    }

    private void commonAddresses() {
        wrongField(5, SECOND_ENTRY, ADDRESS, 128, 192);
        rightField(SECOND_ENTRY, ADDRESS, 256, 64);
        Bytes before = whole().changeFour(SECOND_ENTRY + IN_MEMORY, 128);
        wrong("from before into the first", before.changeFour(SECOND_ENTRY + ADDRESS, 64), 5, SECOND_ENTRY + ADDRESS);
        right("from before up to the first", before.changeFour(SECOND_ENTRY + ADDRESS, 0), 2);
        Bytes round = whole().changeFour(SECOND_ENTRY + ADDRESS, 0).changeFour(SECOND_ENTRY + IN_MEMORY, 1024);
        wrong("round the first", round, 5, SECOND_ENTRY + ADDRESS);
        Bytes last = whole().changeFour(FIRST_ENTRY + ADDRESS, LAST_PAGE - 64);
        wrong("the last page", last.changeFour(SECOND_ENTRY + ADDRESS, LAST_PAGE), 5, SECOND_ENTRY + ADDRESS);
        right("before the last two", last.changeFour(SECOND_ENTRY + ADDRESS, LAST_PAGE - 128), 2);
        // Bytes in memory count, whether or not they are in the file.
        Bytes none = whole().changeFour(FIRST_ENTRY + IN_FILE, 0).changeFour(SECOND_ENTRY + IN_FILE, 0);
        wrong("without bytes in the file", none.changeFour(SECOND_ENTRY + ADDRESS, 192), 5, SECOND_ENTRY + ADDRESS);
    }

    private void commonAddressesWithEach() {
        for (int later = 2; later <= 6; later++) {
            for (int earlier = 1; earlier < later; earlier++) {
                int place = 52 + 32 * later + ADDRESS;
                Bytes b = regionsWithoutBytes(7).changeFour(place, 1024 * (8 - earlier) + 960);
                wrong("region " + later + " and " + earlier, b, 5, place);
            }
        }
    }

    private void noAddressesOfNotes() {
        Bytes b = whole().changeFour(FIRST_ENTRY + ADDRESS, 0);
        right("a region at address 0", b, 2);
        right("a region at address 64", b.changeFour(FIRST_ENTRY + ADDRESS, 64), 2);
    }

    private void order() {
        sentence("WRONG is, in this order, the first of: the header before the program headers", this::headerFirstOfAll);
        sentence("WRONG is the first of: of one program header 3, then 1, then 4, then 5", this::orderOfOne);
        sentence("WRONG is the first of: program header by program header", this::entryByEntry);
        sentence("WRONG is the first of: the program headers before the notes", this::notesLast);
    }

    private void headerFirstOfAll() {
        Bytes b = whole().changeFour(NOTES_ENTRY, 9);
        wrong("a program header's field", b, 3, NOTES_ENTRY);
        wrong("the program headers' end", b.cut(147), 1, 147);
        wrong("the header", b.change(50, 1), 2, 50);
        wrong("the tape's length", b.cut(51), 1, 51);
    }

    private void orderOfOne() {
        Bytes b = whole().changeFour(SECOND_ENTRY + ADDRESS, 128);
        wrong("5 alone", b, 5, SECOND_ENTRY + ADDRESS);
        wrong("4 before 5", b.changeFour(SECOND_ENTRY + WHERE, FIRST), 4, SECOND_ENTRY + WHERE);
        Bytes beyond = whole().changeFour(SECOND_ENTRY + ADDRESS, 128).changeFour(FIRST_ENTRY + WHERE, SECOND);
        wrong("1 before 4 and 5", beyond.changeFour(SECOND_ENTRY + WHERE, SECOND + 1), 1, SECOND_ENTRY + WHERE);
        wrong("3 before all", beyond.changeFour(SECOND_ENTRY + ALIGNMENT, 0), 3, SECOND_ENTRY + ALIGNMENT);
    }

    private void entryByEntry() {
        Bytes b = whole().changeFour(SECOND_ENTRY, 0);
        wrong("3 of the second region", b, 3, SECOND_ENTRY);
        wrong("4 of the first region before it", b.changeFour(FIRST_ENTRY + WHERE, NOTES), 4, FIRST_ENTRY + WHERE);
        wrong("1 of the first region before it", b.changeFour(FIRST_ENTRY + WHERE, END), 1, FIRST_ENTRY + WHERE);
        wrong("3 of the first region before it", b.changeFour(FIRST_ENTRY + ZERO, 1), 3, FIRST_ENTRY + ZERO);
        wrong("1 of the notes before it", b.changeFour(NOTES_ENTRY + WHERE, END), 1, NOTES_ENTRY + WHERE);
        wrong("3 of the notes before it", b.changeFour(NOTES_ENTRY + ALIGNMENT, 0), 3, NOTES_ENTRY + ALIGNMENT);
        Bytes third = regionsWithoutBytes(4).changeFour(148, 0);
        wrong("3 of the third region", third, 3, 148);
        wrong("5 of the second before it", third.changeFour(116 + ADDRESS, 1024 * 7), 5, 116 + ADDRESS);
    }

    private void notesLast() {
        Bytes b = whole().change(NOTES, 6);
        wrong("the notes alone", b, 6, NOTES);
        wrong("5 before them", b.changeFour(SECOND_ENTRY + ADDRESS, 128), 5, SECOND_ENTRY + ADDRESS);
        wrong("4 before them", b.changeFour(SECOND_ENTRY + WHERE, NOTES), 4, SECOND_ENTRY + WHERE);
        wrong("1 before them", b.changeFour(SECOND_ENTRY + WHERE, END), 1, SECOND_ENTRY + WHERE);
        wrong("3 before them", b.changeFour(SECOND_ENTRY + FLAGS, 8), 3, SECOND_ENTRY + FLAGS);
    }
}
