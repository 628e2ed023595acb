/**
 * A CoreDesk whose answers all are numbers (a boolean counts 1 or 0), and which counts its calls:
 * the document promises nothing of an object after its 512th.
 */
final class Desk {
    private static final int PROMISED_CALLS = 512;

    private final CoreDesk desk = new CoreDesk();
    private final Due due;
    private final String name;
    private int calls = 0;

    Desk(Due due, String name) {
        this.due = due;
        this.name = name.isEmpty() ? "" : name + ": ";
    }

    private CoreDesk next() {
        calls++;
        if (calls > PROMISED_CALLS) {
            throw new IllegalStateException(name + "the test makes more calls than are promised");
        }
        return desk;
    }

    int left() {
        return PROMISED_CALLS - calls;
    }

    private Answer answer(long value, String method, int... arguments) {
        StringBuilder call = new StringBuilder(name).append(method).append('(');
        for (int i = 0; i < arguments.length; i++) {
            call.append(i == 0 ? "" : ", ").append(arguments[i]);
        }
        return new Answer(due, call.append(')').toString(), value);
    }

    private Answer truth(boolean value, String method, int... arguments) {
        return answer(value ? 1 : 0, method, arguments);
    }

    /** A subclass of the exception that the document names is not that exception. */
    private static long thrown(RuntimeException e, Class<?> named) {
        if (e.getClass() != named) {
            throw e;
        }
        return Answer.THROWN;
    }

    Answer map(int address, int pages, int flags) {
        return truth(next().map(address, pages, flags), "map", address, pages, flags);
    }

    Answer unmap(int address) {
        return truth(next().unmap(address), "unmap", address);
    }

    Answer poke(int address, int v) {
        return truth(next().poke(address, v), "poke", address, v);
    }

    Answer pokeFour(int address, int v) {
        return truth(next().pokeFour(address, v), "pokeFour", address, v);
    }

    Answer thread(int id) {
        return answer(next().thread(id), "thread", id);
    }

    Answer set(int thread, int register, int v) {
        return truth(next().set(thread, register, v), "set", thread, register, v);
    }

    Answer dump() {
        return answer(next().dump(), "dump");
    }

    Answer byteAt(int k) {
        return answer(next().byteAt(k), "byteAt", k);
    }

    Answer copy() {
        return answer(next().copy(), "copy");
    }

    Answer put(int k, int v) {
        return truth(next().put(k, v), "put", k, v);
    }

    Answer cut(int n) {
        return truth(next().cut(n), "cut", n);
    }

    Answer load() {
        long value;
        try {
            value = next().load();
        } catch (IllegalArgumentException e) {
            value = thrown(e, IllegalArgumentException.class);
        }
        return answer(value, "load");
    }

    Answer error(int what) {
        return answer(next().error(what), "error", what);
    }

    Answer core(int what) {
        return answer(next().core(what), "core", what);
    }

    Answer peek(int address) {
        return answer(next().peek(address), "peek", address);
    }

    Answer flags(int address) {
        return answer(next().flags(address), "flags", address);
    }

    Answer register(int t, int register) {
        long value;
        try {
            value = next().register(t, register);
        } catch (IndexOutOfBoundsException e) {
            value = thrown(e, IndexOutOfBoundsException.class);
        }
        return answer(value, "register", t, register);
    }

    Answer find(int v, int from) {
        return answer(next().find(v, from), "find", v, from);
    }

    Answer caller(int t, int i) {
        return answer(next().caller(t, i), "caller", t, i);
    }

    /** The tape has these bytes and no more, a call for each. */
    void tape(Bytes bytes) {
        cut(0).yes();
        for (int k = 0; k < bytes.length(); k++) {
            put(k, bytes.at(k)).yes();
        }
    }

    void putFour(int k, int v) {
        for (int i = 0; i < 4; i++) {
            put(k + i, v >> 8 * i).yes();
        }
    }

    /** The load answers how many regions there are, and nothing was wrong. */
    void right(int regions) {
        load().is(regions);
        error(0).is(0);
        error(1).is(0);
    }

    /** The load throws, and what is wrong is told with its place. */
    void wrong(int kind, int place) {
        load().thrown();
        error(0).is(kind);
        error(1).is(place);
    }

    /** The process becomes the core, by way of the file and the tape. */
    void reload(int regions) {
        dump();
        copy();
        right(regions);
    }
}
