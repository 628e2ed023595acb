/** Promises 13 and 14: files whole and spoilt, what is WRONG with them, where, and in which order. */
public final class LoadTest {
    private static final Due due = new Due();

    // Of the file that whole() makes: three program headers, two notes, two regions.
    private static final int NOTES_ENTRY = 52;
    private static final int FIRST_ENTRY = 84;
    private static final int SECOND_ENTRY = 116;
    private static final int NOTES = 148;
    private static final int FIRST = 260;
    private static final int SECOND = 324;
    private static final int END = 388;

    private static final int[] HEADER_FIELDS = {16, 18, 20, 24, 28, 32, 36, 40, 42, 44, 46, 48, 50, 52};

    public static void main(String[] args) {
        wholeFile();
        tapeTooShort();
        headerBytes();
        countOfEntries();
        fieldsOfNotesEntry();
        fieldsOfRegionEntries();
        beyondTheTape();
        bytesInCommon();
        addressesInCommon();
        orderOfWrongs();
        noteHeads();
        noteSizes();
        threadNotes();
        otherNotes();
        placesAreFree();
        errorsOfTheLatest();
        coreStays();
        due.end();
    }

    private static Bytes whole() {
        Bytes b = new Bytes().header(3).notesEntry(NOTES, 112);
        b.regionEntry(FIRST, 128, 64, 128, 5).regionEntry(SECOND, 4096, 64, 64, 6);
        b.threadNote(10, 1, 2, 3, 4, 5, 6, 7, 8).threadNote(11, -1);
        b.one(1, 2, 3, 4).zeros(60).zeros(60).one(5, 6, 7, 8);
        return b;
    }

    private static void refused(String name, Bytes tape, int kind, int place) {
        due.refuses(name, tape.onNewDesk(), kind, place);
    }

    private static void loaded(String name, Bytes tape, int regions) {
        due.loads(name, tape.onNewDesk(), regions);
    }

    private static void wrongFour(String name, int at, int v, int kind) {
        refused(name + " " + v, whole().changeFour(at, v), kind, at);
    }

    private static void rightFour(String name, int at, int v) {
        loaded(name + " " + v, whole().changeFour(at, v), 2);
    }

    private static void wholeFile() {
        due.same("the file's length", whole().length(), END);
        CoreDesk desk = whole().onNewDesk();
        due.loads("whole", desk, 2);
        due.same("core(0)", desk.core(0), 2);
        due.same("core(1)", desk.core(1), 2);
        due.same("peek(128)", desk.peek(128), 1);
        due.same("peek(131)", desk.peek(131), 4);
        due.same("peek(192)", desk.peek(192), 0);
        due.same("peek(255)", desk.peek(255), 0);
        due.same("peek(256)", desk.peek(256), -1);
        due.same("peek(4159)", desk.peek(4159), 8);
        for (int r = 0; r < 8; r++) {
            due.register(desk, 0, r, 1 + r);
        }
        due.register(desk, 1, 0, -1);
        due.register(desk, 1, 8, 11);
        due.loads("the tape stays", desk, 2);
        due.yes("behind the file", desk.put(END, 9));
        due.loads("more than the file", desk, 2);
    }

    private static void tapeTooShort() {
        refused("no byte", new Bytes(), 1, 0);
        refused("51 bytes", whole().cut(51), 1, 51);
        refused("51 wrong bytes", new Bytes().zeros(51), 1, 51);
        refused("52 bytes", whole().cut(52), 1, 52);
        refused("52 wrong bytes", new Bytes().zeros(52), 2, 0);
        refused("a program header short of a byte", whole().cut(147), 1, 147);
        refused("program headers alone", whole().cut(148), 1, NOTES_ENTRY + 4);
        refused("notes, no regions", whole().cut(260), 1, FIRST_ENTRY + 4);
        refused("a byte short", whole().cut(END - 1), 1, SECOND_ENTRY + 4);
    }

    private static void headerBytes() {
        for (int k = 0; k < 16; k++) {
            refused("header byte " + k, whole().change(k, whole().at(k) + 1), 2, k);
            refused("header byte " + k + " with bit 7", whole().change(k, whole().at(k) ^ 128), 2, k);
        }
        for (int f = 0; f + 1 < HEADER_FIELDS.length; f++) {
            for (int k = HEADER_FIELDS[f]; k < HEADER_FIELDS[f + 1]; k++) {
                refused("header byte " + k, whole().change(k, whole().at(k) ^ 64), 2, HEADER_FIELDS[f]);
            }
        }
        refused("two of them", whole().change(31, 1).change(5, 2), 2, 5);
        refused("header before headers", whole().change(50, 1).cut(60), 2, 50);
        refused("headers before their fields", whole().change(NOTES_ENTRY, 9).cut(147), 1, 147);
    }

    private static void countOfEntries() {
        refused("none", whole().change(44, 0), 2, 44);
        refused("eight", whole().change(44, 8), 2, 44);
        refused("256 more", whole().change(45, 1), 2, 44);
        refused("32768 more", whole().change(45, 128), 2, 44);
        refused("seven, where there are three", whole().change(44, 7), 3, NOTES_ENTRY + 4);
        refused("seven beyond the tape", whole().change(44, 7).cut(275), 1, 275);
        loaded("one", new Bytes().header(1).notesEntry(84, 0), 0);
        Bytes seven = new Bytes().header(7).notesEntry(276, 0);
        for (int i = 5; i >= 0; i--) {
            seven.regionEntry(276, 1024 * i, 0, 1024, i);
        }
        loaded("seven", seven, 6);
    }

    private static void fieldsOfNotesEntry() {
        for (int k = 0; k < 32; k++) {
            if (k / 4 == 1) {
                continue;
            }
            int at = NOTES_ENTRY + k;
            int field = k / 4 == 4 ? (k % 4 == 3 ? 4 : 5) : k / 4;
            refused("notes' entry byte " + k, whole().change(at, whole().at(at) ^ 128), 3, NOTES_ENTRY + 4 * field);
        }
        wrongFour("notes: kind", NOTES_ENTRY, 1, 3);
        wrongFour("notes: where", NOTES_ENTRY + 4, NOTES - 1, 3);
        wrongFour("notes: where", NOTES_ENTRY + 4, 0, 3);
        wrongFour("notes: where", NOTES_ENTRY + 4, -1, 3);
        wrongFour("notes: where", NOTES_ENTRY + 4, -2147483648, 3);
        wrongFour("notes: address", NOTES_ENTRY + 8, 64, 3);
        wrongFour("notes: zero", NOTES_ENTRY + 12, 1, 3);
        wrongFour("notes: in the file", NOTES_ENTRY + 16, -1, 3);
        wrongFour("notes: in memory", NOTES_ENTRY + 20, 56, 3);
        wrongFour("notes: in memory", NOTES_ENTRY + 20, 0, 3);
        wrongFour("notes: flags", NOTES_ENTRY + 24, 4, 3);
        wrongFour("notes: alignment", NOTES_ENTRY + 28, 64, 3);
        Bytes great = whole().changeFour(NOTES_ENTRY + 16, 2147483647).changeFour(NOTES_ENTRY + 20, 2147483647);
        refused("notes: more than can be", great, 1, NOTES_ENTRY + 4);
        Bytes less = whole().changeFour(NOTES_ENTRY + 16, -4).changeFour(NOTES_ENTRY + 20, -4);
        refused("notes: below 0 in both", less, 3, NOTES_ENTRY + 16);
    }

    private static void fieldsOfRegionEntries() {
        int[] entries = {FIRST_ENTRY, SECOND_ENTRY};
        for (int at : entries) {
            wrongFour("region: kind", at, 4, 3);
            wrongFour("region: kind", at, 0, 3);
            wrongFour("region: kind", at, 257, 3);
            wrongFour("region: where", at + 4, NOTES - 1, 3);
            wrongFour("region: where", at + 4, -1, 3);
            wrongFour("region: where", at + 4, -2147483648, 3);
            wrongFour("region: address", at + 8, 1, 3);
            wrongFour("region: address", at + 8, 32, 3);
            wrongFour("region: address", at + 8, -64, 3);
            wrongFour("region: address", at + 8, -2147483648, 3);
            wrongFour("region: address", at + 8, 2147483647, 3);
            wrongFour("region: zero", at + 12, 1, 3);
            wrongFour("region: zero", at + 12, -2147483648, 3);
            wrongFour("region: in the file", at + 16, -64, 3);
            wrongFour("region: in the file", at + 16, 1, 3);
            wrongFour("region: in the file", at + 16, 63, 3);
            wrongFour("region: in the file", at + 16, 1088, 3);
            wrongFour("region: in the file", at + 16, -2147483648, 3);
            wrongFour("region: in memory", at + 20, 0, 3);
            wrongFour("region: in memory", at + 20, 65, 3);
            wrongFour("region: in memory", at + 20, 1088, 3);
            wrongFour("region: in memory", at + 20, -64, 3);
            wrongFour("region: in memory", at + 20, -2147483648, 3);
            wrongFour("region: flags", at + 24, 8, 3);
            wrongFour("region: flags", at + 24, -1, 3);
            wrongFour("region: alignment", at + 28, 4, 3);
            wrongFour("region: alignment", at + 28, 0, 3);
            rightFour("region: address", at + 8, 2147483520);
            rightFour("region: in the file", at + 16, 0);
            rightFour("region: in memory", at + 20, 1024);
            rightFour("region: flags", at + 24, 0);
            rightFour("region: flags", at + 24, 7);
        }
        refused("less in memory", whole().changeFour(SECOND_ENTRY + 16, 128), 3, SECOND_ENTRY + 20);
        refused("1024 in the file", whole().changeFour(SECOND_ENTRY + 16, 1024), 3, SECOND_ENTRY + 20);
        refused("beyond the last address", whole().changeFour(FIRST_ENTRY + 8, 2147483584), 3, FIRST_ENTRY + 20);
        rightFour("the last page", SECOND_ENTRY + 8, 2147483584);
        Bytes none = whole().changeFour(FIRST_ENTRY + 16, 0).changeFour(FIRST_ENTRY + 20, 0);
        refused("none in memory", none, 3, FIRST_ENTRY + 20);
    }

    private static void beyondTheTape() {
        wrongFour("notes beyond", NOTES_ENTRY + 4, END - 111, 1);
        wrongFour("notes beyond", NOTES_ENTRY + 4, 2147483647, 1);
        wrongFour("region beyond", FIRST_ENTRY + 4, END - 63, 1);
        wrongFour("region beyond", FIRST_ENTRY + 4, 2147483647, 1);
        Bytes none = whole().changeFour(FIRST_ENTRY + 16, 0);
        loaded("none at the end", none.changeFour(FIRST_ENTRY + 4, END), 2);
        refused("none beyond", none.changeFour(FIRST_ENTRY + 4, END + 1), 1, FIRST_ENTRY + 4);
        refused("none beyond", none.changeFour(FIRST_ENTRY + 4, 2147483647), 1, FIRST_ENTRY + 4);
        Bytes noNotes = new Bytes().header(1).notesEntry(85, 0);
        refused("no notes beyond", noNotes, 1, 56);
        loaded("no notes at the end", noNotes.zeros(1), 0);
    }

    private static void bytesInCommon() {
        wrongFour("region in the notes", FIRST_ENTRY + 4, NOTES, 4);
        wrongFour("region in the notes", FIRST_ENTRY + 4, NOTES + 1, 4);
        wrongFour("region's first byte in the notes", FIRST_ENTRY + 4, FIRST - 1, 4);
        wrongFour("the same bytes", SECOND_ENTRY + 4, FIRST, 4);
        wrongFour("a byte of the first", SECOND_ENTRY + 4, SECOND - 1, 4);
        Bytes last = whole().changeFour(FIRST_ENTRY + 4, SECOND).changeFour(SECOND_ENTRY + 4, SECOND - 63);
        refused("its last byte in the first", last, 4, SECOND_ENTRY + 4);
        Bytes one = whole().changeFour(NOTES_ENTRY + 4, FIRST + 63);
        one.changeFour(NOTES_ENTRY + 16, 1).changeFour(NOTES_ENTRY + 20, 1);
        refused("the notes' one byte", one, 4, FIRST_ENTRY + 4);
        Bytes none = whole().changeFour(SECOND_ENTRY + 16, 0);
        loaded("none inside another", none.changeFour(SECOND_ENTRY + 4, FIRST + 8), 2);
        loaded("none in the notes", none.changeFour(SECOND_ENTRY + 4, NOTES + 8), 2);
        Bytes first = whole().changeFour(FIRST_ENTRY + 16, 0).changeFour(FIRST_ENTRY + 4, SECOND + 8);
        loaded("one before it without bytes", first, 2);
        Bytes swapped = whole().changeFour(FIRST_ENTRY + 4, SECOND).changeFour(SECOND_ENTRY + 4, FIRST);
        loaded("regions' bytes the other way round", swapped, 2);
    }

    private static void addressesInCommon() {
        wrongFour("the same address", SECOND_ENTRY + 8, 128, 5);
        wrongFour("the last page of the first", SECOND_ENTRY + 8, 192, 5);
        rightFour("just behind", SECOND_ENTRY + 8, 256);
        rightFour("just before", SECOND_ENTRY + 8, 64);
        Bytes before = whole().changeFour(SECOND_ENTRY + 8, 64).changeFour(SECOND_ENTRY + 20, 128);
        refused("from before into the first", before, 5, SECOND_ENTRY + 8);
        Bytes round = whole().changeFour(SECOND_ENTRY + 8, 0).changeFour(SECOND_ENTRY + 20, 1024);
        refused("round the first", round, 5, SECOND_ENTRY + 8);
        Bytes last = whole().changeFour(FIRST_ENTRY + 8, 2147483520).changeFour(SECOND_ENTRY + 8, 2147483584);
        refused("at the last address", last, 5, SECOND_ENTRY + 8);
        rightFour("address 0 is no notes' address", FIRST_ENTRY + 8, 0);
    }

    private static void orderOfWrongs() {
        Bytes b = whole().change(NOTES, 6);
        refused("notes last", b, 6, NOTES);
        b.changeFour(SECOND_ENTRY + 8, 128);
        refused("addresses before notes", b, 5, SECOND_ENTRY + 8);
        b.changeFour(SECOND_ENTRY + 4, FIRST);
        refused("bytes before addresses", b, 4, SECOND_ENTRY + 4);
        b.changeFour(SECOND_ENTRY + 4, END);
        refused("beyond before bytes", b, 1, SECOND_ENTRY + 4);
        b.changeFour(SECOND_ENTRY + 28, 0);
        refused("fields before beyond", b, 3, SECOND_ENTRY + 28);
        for (int field = 6; field >= 0; field--) {
            b.changeFour(SECOND_ENTRY + 4 * field, -1);
            refused("field " + field, b, 3, SECOND_ENTRY + 4 * field);
        }
        b.changeFour(FIRST_ENTRY + 4, NOTES);
        refused("the first's bytes before the second's fields", b, 4, FIRST_ENTRY + 4);
        b.changeFour(NOTES_ENTRY + 4, END);
        refused("the notes' before the first's", b, 1, NOTES_ENTRY + 4);
        b.changeFour(NOTES_ENTRY, 0);
        refused("the notes' kind", b, 3, NOTES_ENTRY);
        refused("the tape's end", b.cut(147), 1, 147);
        refused("the header", b.change(51, 1), 2, 50);
        refused("the tape", b.cut(51), 1, 51);
    }

    private static Bytes notesOf(int n) {
        return new Bytes().header(1).notesEntry(84, n);
    }

    private static void noteHeads() {
        refused("a byte of a note", notesOf(1).zeros(1), 6, 84);
        refused("19 bytes", notesOf(19).noteHead(0, 2), 6, 84);
        loaded("20 bytes", notesOf(20).noteHead(0, 2), 0);
        refused("21 bytes", notesOf(21).noteHead(0, 2).zeros(1), 6, 104);
        refused("19 bytes more", notesOf(75).threadNote(1).noteHead(0, 2), 6, 140);
        loaded("20 bytes more", notesOf(76).threadNote(1).noteHead(0, 2), 0);
        for (int k = 0; k < 4; k++) {
            refused("name's length, byte " + k, notesOf(56).threadNote(1).change(84 + k, 7), 6, 84);
        }
        for (int k = 12; k < 20; k++) {
            refused("name, byte " + k, notesOf(56).threadNote(1).change(84 + k, 7), 6, 84 + k);
            Bytes second = notesOf(112).threadNote(1).threadNote(2);
            refused("second name, byte " + k, second.change(140 + k, 7).change(159, 7), 6, 140 + k);
        }
        Bytes b = notesOf(56).threadNote(1).changeFour(88, -1);
        refused("size", b, 6, 88);
        refused("name before size", b.change(103, 1), 6, 103);
        refused("length before name", b.change(84, 4), 6, 84);
        refused("another kind's name", notesOf(20).noteHead(0, 2).change(96, 0), 6, 96);
    }

    private static void noteSizes() {
        refused("below 0", notesOf(20).noteHead(-1, 2), 6, 88);
        refused("least", notesOf(20).noteHead(-2147483648, 2), 6, 88);
        refused("most", notesOf(20).noteHead(2147483647, 2), 6, 88);
        refused("2147483644", notesOf(20).noteHead(2147483644, 2), 6, 88);
        refused("one too many", notesOf(20).noteHead(1, 2), 6, 88);
        for (int n = 1; n < 4; n++) {
            refused(n + " without room to four", notesOf(23).noteHead(n, 2).zeros(3), 6, 88);
            loaded(n + " with room to four", notesOf(24).noteHead(n, 2).zeros(4), 0);
        }
        loaded("four", notesOf(24).noteHead(4, 2).zeros(4), 0);
        refused("five", notesOf(27).noteHead(5, 2).zeros(7), 6, 88);
        loaded("five to eight", notesOf(28).noteHead(5, 2).zeros(8), 0);
        refused("a thread short of a byte", notesOf(55).threadNote(1), 6, 88);
        refused("beyond before the kind's number", notesOf(56).threadNote(1).changeFour(88, 40), 6, 88);
    }

    private static void threadNotes() {
        for (int n = 0; n < 48; n++) {
            Bytes b = notesOf(68).noteHead(n, 1).zeros((n + 3) / 4 * 4);
            while (b.length() < 152) {
                b.zeros(1);
            }
            if (n != 36) {
                refused("a thread of " + n + " bytes", b, 6, 88);
            }
        }
        refused("the same id", notesOf(112).threadNote(7).threadNote(7), 6, 160);
        refused("the first's id", notesOf(168).threadNote(7).threadNote(8).threadNote(7), 6, 216);
        loaded("three", notesOf(168).threadNote(1).threadNote(2).threadNote(-2147483648), 0);
        Bytes four = notesOf(224).threadNote(1).threadNote(2).threadNote(3);
        refused("four", four.threadNote(4), 6, 252);
        refused("four, an id that was there", four.changeFour(272, 2), 6, 272);
        refused("four, not of 36 bytes", four.changeFour(256, 32), 6, 256);
        Bytes fourOther = notesOf(224).threadNote(1).threadNote(2).threadNote(3).threadNote(3).changeFour(260, 2);
        loaded("the fourth of another kind", fourOther, 0);
    }

    private static void otherNotes() {
        Bytes b = notesOf(152).noteHead(3, 0).one(1, 2, 3, 4).threadNote(5, 50, 51);
        b.noteHead(36, -1).four(5).zeros(32).noteHead(0, 257).cut(236);
        CoreDesk desk = b.onNewDesk();
        due.refuses("an end in a note's middle", desk, 6, 220);
        desk = b.cut(220).zeros(20).changeFour(68, 156).changeFour(72, 156).onNewDesk();
        due.refuses("a note without its name", desk, 6, 220);
        Bytes c = notesOf(156).noteHead(3, 0).one(1, 2, 3, 4).threadNote(5, 50, 51);
        c.noteHead(36, -1).four(5).zeros(32).noteHead(0, 257);
        desk = c.onNewDesk();
        due.loads("notes of other kinds", desk, 0);
        due.same("one thread", desk.core(1), 1);
        due.register(desk, 0, 0, 50);
        due.register(desk, 0, 1, 51);
        due.register(desk, 0, 8, 5);
    }

    private static void placesAreFree() {
        Bytes b = new Bytes().header(3).notesEntry(281, 56).regionEntry(217, 1024, 64, 64, 1);
        b.regionEntry(149, 64, 64, 64, 2).zeros(1).one(21).zeros(67).one(22).zeros(63).threadNote(3, 31);
        CoreDesk desk = b.onNewDesk();
        due.loads("gaps, and another order", desk, 2);
        due.same("peek(1024)", desk.peek(1024), 22);
        due.same("peek(64)", desk.peek(64), 21);
        due.same("flags(64)", desk.flags(64), 2);
        due.register(desk, 0, 0, 31);
        Bytes many = notesOf(1100).noteHead(1080, 9);
        CoreDesk big = new CoreDesk();
        for (int i = 0; i < 2; i++) {
            big.map(2048 * i, 16, 0);
            big.poke(2048 * i + 1023, 1);
        }
        big.dump();
        big.copy();
        for (int k = 0; k < many.length(); k++) {
            big.put(k, many.at(k));
        }
        due.loads("notes of more than 1024 bytes", big, 0);
    }

    private static void errorsOfTheLatest() {
        CoreDesk desk = new CoreDesk();
        due.same("error(0) before a load", desk.error(0), 0);
        desk.dump();
        desk.copy();
        desk.put(16, 5);
        due.refuses("a wrong header", desk, 2, 16);
        desk.put(16, 4);
        due.same("error(0) stays", desk.error(0), 2);
        due.same("error(1) stays", desk.error(1), 16);
        due.same("error(2)", desk.error(2), 0);
        due.same("error(-1)", desk.error(-1), 0);
        due.same("error(2147483647)", desk.error(2147483647), 0);
        due.same("error(-2147483648)", desk.error(-2147483648), 0);
        due.loads("mended", desk, 0);
        desk.put(0, 0);
        due.refuses("the first byte", desk, 2, 0);
    }

    private static void coreStays() {
        CoreDesk desk = new CoreDesk();
        desk.map(64, 1, 3);
        desk.poke(70, 7);
        desk.thread(5);
        desk.set(0, 2, 22);
        desk.dump();
        due.same("core(0) before a load", desk.core(0), -1);
        due.refuses("an empty tape", desk, 1, 0);
        due.same("core(0) after a wrong one", desk.core(0), -1);
        desk.copy();
        due.loads("a right one", desk, 1);
        desk.map(128, 1, 4);
        desk.thread(6);
        desk.set(0, 2, 23);
        desk.poke(70, 8);
        desk.dump();
        desk.copy();
        // Wrong in the last note alone, when all else has been read.
        desk.put(52 + 96 + 56 + 20, 5);
        due.refuses("a wrong one", desk, 6, 52 + 96 + 56 + 20);
        due.same("core(0)", desk.core(0), 1);
        due.same("core(1)", desk.core(1), 1);
        due.same("peek(70)", desk.peek(70), 7);
        due.same("flags(128)", desk.flags(128), -1);
        due.register(desk, 0, 2, 22);
        due.noRegister(desk, 1, 8);
        desk.copy();
        due.loads("another right one", desk, 2);
        due.same("core(1) now", desk.core(1), 2);
        due.same("peek(70) now", desk.peek(70), 8);
        due.register(desk, 0, 2, 23);
        desk.put(180, 0);
        due.same("the core is not the tape", desk.peek(70), 8);
        desk.unmap(64);
        desk.unmap(128);
        desk.dump();
        desk.copy();
        due.loads("a smaller one", desk, 0);
        due.same("peek(70) in a smaller one", desk.peek(70), -1);
    }
}
