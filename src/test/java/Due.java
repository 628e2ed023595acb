/** Counts the answers that are not the ones that are due. */
final class Due {
    private int wrong = 0;

    void same(String call, long got, long want) {
        if (got != want) {
            wrong++;
            System.out.println(call + " answered " + got + ", due is " + want);
        }
    }

    void yes(String call, boolean got) {
        same(call, got ? 1 : 0, 1);
    }

    void no(String call, boolean got) {
        same(call, got ? 1 : 0, 0);
    }

    void text(String what, String got, String want) {
        if (!got.equals(want)) {
            wrong++;
            System.out.println(what + " is " + got + ", due is " + want);
        }
    }

    /** The load succeeds and answers how many regions there are. */
    void loads(String call, CoreDesk desk, int regions) {
        try {
            same(call, desk.load(), regions);
        } catch (IllegalArgumentException e) {
            wrong++;
            System.out.println(call + " throws: wrong " + desk.error(0) + " at " + desk.error(1));
        }
        same(call + ", error(0)", desk.error(0), 0);
        same(call + ", error(1)", desk.error(1), 0);
    }

    /** The load throws, and the error is told with its place. */
    void refuses(String call, CoreDesk desk, int kind, int place) {
        boolean thrown = false;
        try {
            desk.load();
        } catch (IllegalArgumentException e) {
            thrown = true;
        }
        yes(call + " throws", thrown);
        same(call + ", error(0)", desk.error(0), kind);
        same(call + ", error(1)", desk.error(1), place);
    }

    void register(CoreDesk desk, int t, int register, int want) {
        String call = "register(" + t + ", " + register + ")";
        try {
            same(call, desk.register(t, register), want);
        } catch (IndexOutOfBoundsException e) {
            wrong++;
            System.out.println(call + " throws, due is " + want);
        }
    }

    void noRegister(CoreDesk desk, int t, int register) {
        boolean thrown = false;
        try {
            desk.register(t, register);
        } catch (IndexOutOfBoundsException e) {
            thrown = true;
        }
        yes("register(" + t + ", " + register + ") throws", thrown);
    }

    void end() {
        System.out.println(wrong == 0 ? "all answers are as due" : wrong + " answers are not as due");
        if (wrong != 0) {
            System.exit(1);
        }
    }
}
