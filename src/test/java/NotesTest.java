/** What is WRONG with a tape's notes, and promises 13 and 14: what a load answers, leaves and tells. */
public final class NotesTest extends Sentences {
    // Of the tape that notesOf() begins, which has one program header.
    private static final int FIRST = 84;
    private static final int SECOND = 140;
    private static final int THIRD = 196;
    private static final int FOURTH = 252;

    // Of a note.
    private static final int SIZE = 4;
    private static final int KIND = 8;
    private static final int NAME = 12;
    private static final int ID = 20;

    public static void main(String[] args) {
        new NotesTest().run();
    }

    @Override
    void tests() {
        heads();
        sizes();
        threads();
        order();
        load();
        error();
    }

    private static Bytes notesOf(int n) {
        return new Bytes().header(1).notesEntry(FIRST, n);
    }

    private void wrong(String name, Bytes tape, int place) {
        Desk desk = desk(name);
        desk.tape(tape);
        desk.wrong(6, place);
        desk.core(1).none();
    }

    private void right(String name, Bytes tape, int threads) {
        Desk desk = desk(name);
        desk.tape(tape);
        desk.right(0);
        desk.core(1).is(threads);
    }

    private void heads() {
        sentence("the notes, one by one, until their bytes are at an end", this::untilTheEnd);
        sentence("6 a note's first 20 bytes go beyond them (at the note's first byte)", this::firstTwenty);
        sentence("6 name: 5 (4)", this::nameLengths);
        sentence("6 name: bytes 12 to 19 as above (at the first that is not)", this::names);
    }

    private void untilTheEnd() {
        right("no note", notesOf(0), 0);
        right("no note, bytes behind", notesOf(0).zeros(100), 0);
        right("one note", notesOf(56).threadNote(1), 1);
        right("one note, another behind the end", notesOf(56).threadNote(1).threadNote(2), 1);
        right("one note, no note behind the end", notesOf(56).threadNote(1).zeros(60), 1);
        right("two notes", notesOf(112).threadNote(1).threadNote(2), 2);
        right("three notes", notesOf(168).threadNote(1).threadNote(2).threadNote(3), 3);
        Bytes many = notesOf(20 * 16);
        for (int i = 0; i < 16; i++) {
            many.noteHead(0, 2);
        }
        right("sixteen notes of another kind", many, 0);
        wrong("the last of sixteen", many.change(FIRST + 20 * 15, 6), FIRST + 20 * 15);
    }

    private void firstTwenty() {
        for (int n = 1; n < 20; n++) {
            wrong(n + " bytes", notesOf(n).noteHead(0, 2).zeros(40), FIRST);
            wrong(n + " bytes behind a note", notesOf(56 + n).threadNote(1).noteHead(0, 2).zeros(40), SECOND);
            wrong(n + " wrong bytes behind a note", notesOf(56 + n).threadNote(1).zeros(n), SECOND);
        }
        right("20 bytes", notesOf(20).noteHead(0, 2), 0);
        right("20 bytes behind a note", notesOf(76).threadNote(1).noteHead(0, 2), 1);
        wrong("21 bytes", notesOf(21).noteHead(0, 2).zeros(1), FIRST + 20);
    }

    private void nameLengths() {
        int[] others = {0, 4, 6, -5, 8, 5 + 256, 5 + 65536, 5 + (1 << 24), 5 + LEAST, LAST};
        for (int n : others) {
            wrong("length " + n, notesOf(112).threadNote(1).threadNote(2).changeFour(FIRST, n), FIRST);
            wrong("second's length " + n, notesOf(112).threadNote(1).threadNote(2).changeFour(SECOND, n), SECOND);
            wrong("another kind's length " + n, notesOf(20).noteHead(0, 2).changeFour(FIRST, n), FIRST);
        }
    }

    private void names() {
        for (int k = NAME; k < 20; k++) {
            Bytes due = notesOf(112).threadNote(1).threadNote(2);
            int[] others = {due.at(FIRST + k) + 1, due.at(FIRST + k) ^ 32, due.at(FIRST + k) ^ 128};
            for (int other : others) {
                wrong("byte " + k + " is " + other,
                    notesOf(112).threadNote(1).threadNote(2).change(FIRST + k, other), FIRST + k);
                wrong("second's byte " + k + " is " + other,
                    notesOf(112).threadNote(1).threadNote(2).change(SECOND + k, other), SECOND + k);
                wrong("another kind's byte " + k + " is " + other,
                    notesOf(20).noteHead(0, 2).change(FIRST + k, other), FIRST + k);
            }
        }
        Bytes b = notesOf(56).threadNote(1);
        for (int k = 19; k >= NAME; k--) {
            wrong("all bytes from " + k + " on", b.change(FIRST + k, 99), FIRST + k);
        }
        wrong("the length, too", b.change(FIRST, 99), FIRST);
    }

    private void sizes() {
        sentence("6 the number of its bytes is below 0 (at this field)", this::sizesBelowZero);
        sentence("6 these go beyond (at this field)", this::sizesBeyond);
        sentence("6 these, and as many more as it takes to a multiple of 4, go beyond", this::sizesToFour);
        sentence("6 a multiple of 4 bytes of the note, wherever it begins", this::sizesAtOddPlaces);
    }

    private void sizesBelowZero() {
        int[] below = {-1, -3, -4, -20, -36, LEAST, LEAST + 36};
        for (int n : below) {
            wrong(n + " bytes", notesOf(56).noteHead(n, 2).zeros(36), FIRST + SIZE);
            wrong(n + " bytes of kind 1", notesOf(56).noteHead(n, 1).zeros(36), FIRST + SIZE);
            wrong(n + " bytes behind a note",
                notesOf(76).threadNote(1).noteHead(n, 2), SECOND + SIZE);
        }
        right("0 bytes", notesOf(20).noteHead(0, 2), 0);
        right("0 bytes before and behind a note", notesOf(96).noteHead(0, 2).threadNote(1).noteHead(0, 3), 1);
    }

    private void sizesBeyond() {
        for (int room = 0; room <= 12; room += 4) {
            right(room + " bytes in a room of as many", notesOf(20 + room).noteHead(room, 2).zeros(room), 0);
            wrong("a byte more", notesOf(20 + room).noteHead(room + 1, 2).zeros(room + 40), FIRST + SIZE);
            wrong("four bytes more", notesOf(20 + room).noteHead(room + 4, 2).zeros(room + 40), FIRST + SIZE);
        }
        int[] great = {LAST, LAST - 1, LAST - 2, LAST - 3, LAST - 23, LAST - FIRST, LAST - FIRST - 20, 1 << 30};
        for (int n : great) {
            wrong(n + " bytes", notesOf(20).noteHead(n, 2), FIRST + SIZE);
            wrong(n + " bytes of kind 1", notesOf(56).noteHead(n, 1).zeros(36), FIRST + SIZE);
            wrong(n + " bytes behind a note", notesOf(76).threadNote(1).noteHead(n, 2), SECOND + SIZE);
        }
        wrong("a thread's bytes, one short", notesOf(55).threadNote(1), FIRST + SIZE);
        wrong("a second thread's bytes, one short", notesOf(111).threadNote(1).threadNote(2), SECOND + SIZE);
    }

    private void sizesToFour() {
        for (int n = 1; n <= 12; n++) {
            int padded = (n + 3) / 4 * 4;
            for (int room = n; room < padded; room++) {
                wrong(n + " bytes in a room of " + room, notesOf(20 + room).noteHead(n, 2).zeros(40), FIRST + SIZE);
            }
            right(n + " bytes in a room of " + padded, notesOf(20 + padded).noteHead(n, 2).zeros(padded), 0);
            Bytes next = notesOf(20 + padded + 56).noteHead(n, 2).one(new int[padded]).threadNote(n);
            right(n + " bytes, a thread behind them", next, 1);
        }
        Bytes odd = notesOf(24 + 56).noteHead(1, 2).one(9, 67, 79, 82).threadNote(1);
        right("the bytes up to the multiple may be any", odd, 1);
    }

    private void sizesAtOddPlaces() {
        for (int gap = 1; gap < 4; gap++) {
            for (int n = 1; n <= 4; n++) {
                Bytes b = new Bytes().header(1).notesEntry(FIRST + gap, 24 + 56).zeros(gap);
                b.noteHead(n, 2).zeros(4).threadNote(n, 70 + gap);
                right(n + " bytes behind a gap of " + gap, b, 1);
            }
            Bytes b = new Bytes().header(1).notesEntry(FIRST + gap, 23).zeros(gap).noteHead(1, 2).zeros(3);
            wrong("no room behind a gap of " + gap, b, FIRST + gap + SIZE);
        }
    }

    private void threads() {
        sentence("6 kind 1: they are not 36 (at the field with their number)", this::threadSizes);
        sentence("6 kind 1: an id that was there (at the id)", this::threadIds);
        sentence("6 kind 1: more than three threads (at the note's first byte)", this::threadsMoreThanThree);
        sentence("Notes of other kinds are passed over", this::otherKinds);
        sentence("Notes of other kinds are no threads, even if they look so", this::otherKindsLikeThreads);
    }

    private void threadSizes() {
        for (int n = 0; n <= 72; n++) {
            int padded = (n + 3) / 4 * 4;
            Bytes b = notesOf(20 + padded).noteHead(n, 1).zeros(padded);
            if (n == 36) {
                right("36 bytes", b, 1);
            } else {
                wrong(n + " bytes", b, FIRST + SIZE);
            }
        }
        Bytes second = notesOf(116).threadNote(1).noteHead(40, 1).zeros(40);
        wrong("40 bytes behind a note", second, SECOND + SIZE);
    }

    private void threadIds() {
        int[] ids = {0, 7, -1, LAST, LEAST};
        for (int id : ids) {
            wrong("the same id " + id, notesOf(112).threadNote(id).threadNote(id), SECOND + ID);
            Bytes third = notesOf(168).threadNote(id).threadNote(8).threadNote(id);
            wrong("the first's id " + id, third, THIRD + ID);
            wrong("the second's id", third.changeFour(THIRD + ID, 8), THIRD + ID);
            right("an id that was not there", third.changeFour(THIRD + ID, 9), 3);
            Bytes between = notesOf(132).threadNote(id).noteHead(0, 2).threadNote(id);
            wrong("the same id, another note between", between, SECOND + 20 + ID);
        }
        right("ids that differ in one bit", notesOf(168).threadNote(0).threadNote(LEAST).threadNote(1 << 16), 3);
    }

    private void threadsMoreThanThree() {
        Bytes four = notesOf(224).threadNote(1).threadNote(2).threadNote(3).threadNote(4);
        wrong("four", four, FOURTH);
        right("three, the fourth of another kind", four.changeFour(FOURTH + KIND, 2), 3);
        Bytes three = notesOf(188).threadNote(1).threadNote(2).noteHead(0, 9).threadNote(3);
        right("three among four notes", three, 3);
        Bytes late = notesOf(244).threadNote(1).threadNote(2).threadNote(3).noteHead(0, 9).threadNote(4);
        wrong("four among five notes", late, FOURTH + 20);
    }

    private void otherKinds() {
        int[] kinds = {0, 2, -1, 257, 1 + 65536, 1 + (1 << 24), 1 + LEAST, LAST};
        for (int kind : kinds) {
            right("kind " + kind + " without bytes", notesOf(20).noteHead(0, kind), 0);
            right("kind " + kind + " of 3 bytes", notesOf(24).noteHead(3, kind).zeros(4), 0);
            right("kind " + kind + " of 36 bytes", notesOf(56).noteHead(36, kind).zeros(36), 0);
        }
        Desk desk = desk("a thread between others");
        Bytes b = notesOf(156).noteHead(3, 0).one(1, 2, 3, 4).threadNote(5, 50, 51);
        desk.tape(b.noteHead(36, -1).four(5).zeros(32).noteHead(0, 257));
        desk.right(0);
        desk.core(1).is(1);
        desk.register(0, 0).is(50);
        desk.register(0, 1).is(51);
        desk.register(0, 7).is(0);
        desk.register(0, 8).is(5);
        desk.register(1, 8).thrown();
    }

    private void otherKindsLikeThreads() {
        Bytes b = notesOf(224).threadNote(1).threadNote(1).threadNote(2).threadNote(1);
        right("the same id again", b.changeFour(SECOND + KIND, 2).changeFour(FOURTH + KIND, 2), 2);
        Bytes first = notesOf(112).threadNote(1).changeFour(FIRST + KIND, 0).threadNote(1);
        right("the id of one that was passed over", first, 1);
    }

    private void order() {
        sentence("WRONG is the first of: within a note", this::orderWithinANote);
        sentence("WRONG is the first of: note by note", this::orderOfNotes);
    }

    private void orderWithinANote() {
        Bytes b = notesOf(224).threadNote(1).threadNote(2).threadNote(3).threadNote(4);
        wrong("a fourth thread", b, FOURTH);
        wrong("its id before", b.changeFour(FOURTH + ID, 2), FOURTH + ID);
        wrong("not 36 before", b.changeFour(FOURTH + SIZE, 35), FOURTH + SIZE);
        wrong("beyond before", b.changeFour(FOURTH + SIZE, 37), FOURTH + SIZE);
        wrong("the name's last byte before", b.change(FOURTH + 19, 1), FOURTH + 19);
        wrong("the name's first byte before", b.change(FOURTH + NAME, 1), FOURTH + NAME);
        wrong("the name's length before", b.change(FOURTH, 4), FOURTH);
        wrong("19 bytes before", b.changeFour(68, 168 + 19).changeFour(72, 168 + 19), FOURTH);
        Bytes short36 = notesOf(20 + 32).noteHead(36, 1).zeros(36);
        wrong("36 go beyond", short36, FIRST + SIZE);
    }

    private void orderOfNotes() {
        Bytes b = notesOf(112).threadNote(1).threadNote(1).change(SECOND, 6);
        wrong("the second's name's length", b, SECOND);
        wrong("the first's size before", b.changeFour(FIRST + SIZE, 32), FIRST + SIZE);
        wrong("the first's name before", b.change(FIRST + NAME, 0), FIRST + NAME);
        Bytes third = notesOf(168).threadNote(1).threadNote(1).threadNote(2).change(THIRD + NAME, 0);
        wrong("the second's id before the third's name", third, SECOND + ID);
    }

    private void load() {
        sentence("Promise 13: how many regions: 0 to 6", this::loadCounts);
        sentence("Promise 13: is the core from then on", this::loadBecomesCore);
        sentence("Promise 13: nothing of the core before is left", this::loadLeavesNothing);
        sentence("Promise 13: the tape is read (it stays)", this::loadLeavesTheTape);
        sentence("Promise 13: where the bytes are may be any place, in any order, with gaps", this::loadAnyPlaces);
        sentence("Promise 13: bytes behind the file may be any", this::loadBytesBehind);
        sentence("Promise 13: bytes behind the program headers are no program header more", this::loadNoHeaderMore);
        sentence("Promise 13: if it is WRONG, the core stays, whatever was wrong", this::loadWrongCoreStays);
        sentence("Promise 13: if it is WRONG, there is no core where there was none", this::loadWrongNoCore);
        sentence("Promise 13: a core is neither the tape nor the process", this::loadIsACopy);
    }

    private void loadCounts() {
        Desk desk = desk();
        for (int regions = 0; regions <= 6; regions++) {
            desk.reload(regions);
            desk.core(0).is(regions);
            desk.core(1).is(Math.min(regions, 3));
            desk.map(64 * regions, 1, 0).is(regions < 6 ? 1 : 0);
            desk.thread(regions).is(regions < 3 ? regions : -1);
        }
    }

    private void loadBecomesCore() {
        Desk desk = desk();
        desk.map(64, 2, 5).yes();
        desk.pokeFour(64, 0x0A0B0C0D).yes();
        desk.thread(9).is(0);
        desk.set(0, 7, 64).yes();
        desk.dump().is(236);
        desk.copy().is(236);
        desk.core(0).none();
        desk.peek(64).none();
        desk.right(1);
        desk.core(0).is(1);
        desk.core(1).is(1);
        desk.peek(64).is(0x0D);
        desk.peek(67).is(0x0A);
        desk.peek(128).is(0);
        desk.peek(191).is(0);
        desk.flags(64).is(5);
        desk.register(0, 7).is(64);
        desk.find(0x0A0B0C0D, 0).is(64);
    }

    private void loadLeavesNothing() {
        Desk desk = desk();
        busy(desk);
        desk.map(0, 1, 1).yes();
        desk.poke(0, 1).yes();
        desk.thread(70).is(2);
        for (int t = 0; t < 3; t++) {
            desk.set(t, 7, 64).yes();
        }
        desk.reload(3);
        desk.unmap(0).yes();
        desk.unmap(64).yes();
        desk.unmap(192).yes();
        desk.map(64, 2, 0).yes();
        desk.reload(1);
        desk.flags(0).none();
        desk.flags(64).is(0);
        desk.flags(192).none();
        desk.peek(64).is(0);
        desk.peek(127).is(0);
        desk.caller(0, 0).is(0);
        desk.tape(notesOf(0));
        desk.right(0);
        desk.core(1).is(0);
        desk.peek(64).none();
        desk.find(0, 0).none();
        desk.register(0, 8).thrown();
        desk.caller(0, 0).none();
    }

    private void loadLeavesTheTape() {
        unchanged(desk -> {
            busy(desk);
            desk.right(2);
        }, Desk::load, 2);
        Desk desk = desk();
        busy(desk);
        desk.right(2);
        desk.cut(397).no();
        desk.put(396, 1).yes();
        desk.right(2);
        desk.put(16, 5).yes();
        desk.wrong(2, 16);
        desk.put(16, 4).yes();
        desk.right(2);
    }

    private void loadAnyPlaces() {
        Bytes b = new Bytes().header(3).notesEntry(281, 56).regionEntry(217, 1024, 64, 64, 1);
        b.regionEntry(149, 64, 64, 64, 2).zeros(1).one(21).zeros(67).one(22).zeros(62).one(23).threadNote(3, 31);
        Desk desk = desk();
        desk.tape(b);
        desk.right(2);
        desk.peek(1024).is(22);
        desk.peek(1087).is(23);
        desk.peek(64).is(21);
        desk.peek(127).is(0);
        desk.flags(64).is(2);
        desk.flags(1024).is(1);
        desk.register(0, 0).is(31);
        desk.register(0, 8).is(3);
    }

    private void loadBytesBehind() {
        Desk desk = desk();
        desk.tape(notesOf(56).threadNote(1, 5).one(255, 0, 6));
        desk.right(0);
        desk.core(1).is(1);
        desk.register(0, 0).is(5);
        desk.cut(140).yes();
        desk.right(0);
    }

    private void loadNoHeaderMore() {
        Desk desk = desk();
        Bytes b = new Bytes().header(2).notesEntry(244, 0).regionEntry(180, 64, 64, 64, 1);
        desk.tape(b.regionEntry(180, 1024, 64, 64, 2).zeros(32).one(7).zeros(63));
        desk.right(1);
        desk.core(0).is(1);
        desk.peek(64).is(7);
        desk.flags(1024).none();
        desk.peek(1024).none();
    }

    /** Behind loaded, the tape has two regions and a thread; each of these spoils it in one way. */
    private void loadWrongCoreStays() {
        int[][] spoilt = {{0, 1, 2, 0}, {44, 8, 2, 44}, {44, 7, 3, 56}, {56, 0, 3, 56}, {112, 63, 3, 112},
            {88, 150, 4, 88}, {89, 255, 1, 88}, {120, 0, 4, 120}, {124, 64, 5, 124}, {148, 4, 6, 148},
            {152, 40, 6, 152}, {160, 0, 6, 160}};
        for (int[] change : spoilt) {
            unchangedByLoad("byte " + change[0] + " is " + change[1], desk -> {
                loaded(desk);
                desk.put(change[0], change[1]).yes();
            }, change[2], change[3]);
        }
        int[][] cuts = {{0, 1, 0}, {51, 1, 51}, {52, 1, 52}, {147, 1, 147}, {203, 1, 56}, {267, 1, 88}, {395, 1, 120}};
        for (int[] cut : cuts) {
            unchangedByLoad("cut to " + cut[0], desk -> {
                loaded(desk);
                desk.cut(cut[0]).yes();
            }, cut[1], cut[2]);
        }
        unchangedByLoad("the last of three notes", desk -> {
            loaded(desk);
            desk.thread(8).is(2);
            desk.unmap(64).yes();
            desk.unmap(192).yes();
            desk.dump().is(252);
            desk.copy().is(252);
            desk.putFour(196 + ID, 5);
        }, 6, 196 + ID);
        Desk desk = desk("asked for the core");
        busy(desk);
        desk.core(0).is(2);
        desk.core(1).is(1);
        desk.peek(64).is(200);
        desk.peek(319).is(9);
        desk.flags(192).is(5);
        desk.register(0, 7).is(64);
        desk.register(1, 0).thrown();
        desk.find(1000, 0).is(68);
        desk.caller(0, 0).is(1000);
    }

    private void loadWrongNoCore() {
        Desk desk = desk();
        desk.map(64, 1, 3).yes();
        desk.poke(64, 1).yes();
        desk.thread(5).is(0);
        desk.thread(6).is(1);
        desk.dump().is(292);
        desk.copy().is(292);
        desk.putFour(172 + ID, 5);
        desk.wrong(6, 172 + ID);
        desk.core(0).none();
        desk.core(1).none();
        desk.peek(64).none();
        desk.flags(64).none();
        desk.register(0, 8).thrown();
        desk.find(0, 0).none();
        desk.caller(0, 0).none();
        desk.putFour(172 + ID, 7);
        desk.right(1);
        desk.register(1, 8).is(7);
    }

    private void loadIsACopy() {
        Desk desk = desk();
        desk.map(64, 1, 3).yes();
        desk.poke(64, 1).yes();
        desk.thread(5).is(0);
        desk.reload(1);
        desk.poke(64, 2).yes();
        desk.set(0, 0, 2).yes();
        desk.put(172, 3).yes();
        desk.put(140, 3).yes();
        desk.dump().is(236);
        desk.peek(64).is(1);
        desk.register(0, 0).is(0);
        desk.unmap(64).yes();
        desk.cut(0).yes();
        desk.peek(64).is(1);
        desk.flags(64).is(3);
        desk.core(0).is(1);
        desk.poke(64, 9).no();
    }

    private void error() {
        sentence("Promise 14: 0 before a load", this::errorBeforeALoad);
        sentence("Promise 14: of the latest load: what was WRONG, and at which byte", this::errorOfTheLatest);
        sentence("Promise 14: 0 if nothing was", this::errorOfNothing);
        sentence("Promise 14: 0 for another what", this::errorOfAnother);
        sentence("Promise 14: no other call changes it", this::errorStays);
    }

    private void errorBeforeALoad() {
        Desk desk = desk();
        int[] whats = {0, 1, 2, -1, LAST, LEAST};
        for (int what : whats) {
            desk.error(what).is(0);
        }
        desk.dump().is(84);
        desk.copy().is(84);
        desk.error(0).is(0);
        desk.error(1).is(0);
    }

    private void errorOfTheLatest() {
        Desk desk = desk();
        desk.wrong(1, 0);
        desk.dump().is(84);
        desk.copy().is(84);
        desk.put(16, 5).yes();
        desk.wrong(2, 16);
        desk.put(16, 4).yes();
        desk.put(80, 5).yes();
        desk.wrong(3, 80);
        desk.cut(83).yes();
        desk.wrong(1, 83);
        desk.put(0, 126).yes();
        desk.wrong(2, 0);
        desk.cut(7).yes();
        desk.wrong(1, 7);
    }

    private void errorOfNothing() {
        Desk desk = desk();
        desk.dump().is(84);
        desk.copy().is(84);
        desk.put(80, 5).yes();
        desk.wrong(3, 80);
        desk.put(80, 4).yes();
        desk.error(0).is(3);
        desk.error(1).is(80);
        desk.load().is(0);
        desk.error(0).is(0);
        desk.error(1).is(0);
    }

    private void errorOfAnother() {
        Desk desk = desk();
        desk.put(0, 0).yes();
        desk.wrong(1, 1);
        int[] whats = {2, -1, 3, 256, 257, LAST, LEAST, LEAST + 1};
        for (int what : whats) {
            desk.error(what).is(0);
        }
    }

    private void errorStays() {
        Desk desk = desk();
        desk.put(0, 0).yes();
        desk.wrong(1, 1);
        desk.map(64, 1, 0).yes();
        desk.poke(64, 1).yes();
        desk.pokeFour(64, 1).yes();
        desk.thread(1).is(0);
        desk.set(0, 0, 1).yes();
        desk.dump().is(236);
        desk.copy().is(236);
        desk.put(0, 0).yes();
        desk.cut(100).yes();
        desk.register(0, 0).thrown();
        desk.core(0).none();
        desk.peek(64).none();
        desk.unmap(64).yes();
        desk.error(0).is(1);
        desk.error(1).is(1);
        unchanged(Sentences::busy, d -> d.error(0), 2);
        unchanged(Sentences::busy, d -> d.error(1), 16);
        unchanged(Sentences::busy, d -> d.error(2), 0);
    }
}
