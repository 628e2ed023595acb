/** What one call answered, with the call's words for when it is not the answer that is due. */
record Answer(Due due, String call, long value) {
    /** Stands where a call threw the very exception that the document names for it. */
    static final long THROWN = Long.MIN_VALUE;

    void is(long want) {
        due.same(call, value, want);
    }

    void yes() {
        is(1);
    }

    void no() {
        is(0);
    }

    void none() {
        is(-1);
    }

    void thrown() {
        is(THROWN);
    }
}
