import java.util.ArrayList;
import java.util.List;

/** A row of bytes written out by hand, field by field, after the document's words. */
final class Bytes {
    private final List<Integer> bytes = new ArrayList<>();

    int length() {
        return bytes.size();
    }

    int at(int k) {
        return bytes.get(k);
    }

    Bytes one(int... values) {
        for (int v : values) {
            bytes.add(v & 255);
        }
        return this;
    }

    Bytes two(int v) {
        return one(v, v >> 8);
    }

    Bytes four(int v) {
        return one(v, v >> 8, v >> 16, v >> 24);
    }

    Bytes zeros(int n) {
        return one(new int[n]);
    }

    Bytes header(int programHeaders) {
        one(127, 69, 76, 70, 1, 1, 1).zeros(9);
        two(4).two(8).four(1).four(0).four(52).four(0).four(0);
        return two(52).two(32).two(programHeaders).two(0).two(0).two(0);
    }

    Bytes notesEntry(int where, int n) {
        return four(4).four(where).four(0).four(0).four(n).four(n).four(0).four(4);
    }

    Bytes regionEntry(int where, int address, int inFile, int inMemory, int flags) {
        return four(1).four(where).four(address).four(0).four(inFile).four(inMemory).four(flags).four(64);
    }

    Bytes noteHead(int size, int kind) {
        return four(5).four(size).four(kind).one(67, 79, 82, 69, 0, 0, 0, 0);
    }

    Bytes threadNote(int id, int... registers) {
        noteHead(36, 1).four(id);
        for (int r = 0; r < 8; r++) {
            four(r < registers.length ? registers[r] : 0);
        }
        return this;
    }

    Bytes change(int k, int v) {
        bytes.set(k, v & 255);
        return this;
    }

    Bytes changeFour(int k, int v) {
        for (int i = 0; i < 4; i++) {
            change(k + i, v >> 8 * i);
        }
        return this;
    }

    Bytes cut(int n) {
        bytes.subList(n, bytes.size()).clear();
        return this;
    }
}
