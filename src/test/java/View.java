import java.util.ArrayList;
import java.util.List;
import java.util.function.Consumer;

/**
 * All that can be seen of a desk at a story's end. It takes many calls, and some change the desk, so the
 * story is told anew for each part of it. The story makes at most 200 calls; its file and its tape have
 * fewer than BYTES bytes; its regions are below address ADDRESSES or the last page.
 */
final class View {
    private static final int BYTES = 600;
    private static final int ADDRESSES = 500;
    private static final int STRIDE = 200;
    private static final int LAST_PAGE = 2147483584;

    private final Due due;
    private final Consumer<Desk> story;
    private final List<String> answers = new ArrayList<>();

    /** What there is in an object, each apart from the others. */
    enum Part { ERRORS, CORE, FILE, TAPE, PROCESS }

    private View(Due due, Consumer<Desk> story) {
        this.due = due;
        this.story = story;
    }

    static List<String> of(Due due, Consumer<Desk> story, Part part) {
        View view = new View(due, story);
        switch (part) {
            case ERRORS -> view.errors(view.desk());
            case CORE -> view.core(false);
            case FILE -> view.file(false);
            case TAPE -> view.tape();
            default -> view.process();
        }
        return view.answers;
    }

    private Desk desk() {
        Desk desk = new Desk(due, "");
        story.accept(desk);
        return desk;
    }

    /** The tape can be seen only by reading it, or by its length. */
    private void tape() {
        tapeLength();
        errors(loaded());
        core(true);
    }

    private void process() {
        file(true);
        note(desk().thread(123456789));
    }

    private Desk loaded() {
        Desk desk = desk();
        note(desk.load());
        return desk;
    }

    private void note(Answer answer) {
        answers.add(answer.call() + " = " + answer.value());
    }

    private void errors(Desk desk) {
        note(desk.error(0));
        note(desk.error(1));
    }

    private void core(boolean ofTheTape) {
        Desk desk = ofTheTape ? loaded() : desk();
        note(desk.core(0));
        note(desk.core(1));
        for (int t = 0; t < 4; t++) {
            for (int r = 0; r < 9; r++) {
                note(desk.register(t, r));
            }
            note(desk.caller(t, 0));
            note(desk.caller(t, 1));
        }
        for (int address = 0; address < ADDRESSES; address += 32) {
            note(desk.flags(address));
            note(desk.find(0, address));
        }
        for (int k = 0; k < 64; k++) {
            note(desk.peek(LAST_PAGE + k));
        }
        for (int from = 0; from < ADDRESSES; from += STRIDE) {
            desk = ofTheTape ? loaded() : desk();
            for (int address = from; address < from + STRIDE; address++) {
                note(desk.peek(address));
            }
        }
    }

    /** The file that is there, or the one that shows the process as it is now. */
    private void file(boolean ofTheProcess) {
        for (int from = 0; from < BYTES; from += STRIDE) {
            Desk desk = desk();
            if (ofTheProcess) {
                note(desk.dump());
            }
            for (int k = from; k < from + STRIDE; k++) {
                note(desk.byteAt(k));
            }
        }
    }

    private void tapeLength() {
        Desk desk = desk();
        Answer longest = desk.put(BYTES / 2, 0);
        note(longest);
        // Half of the lengths need not be tried where byte BYTES / 2 can't be put.
        int n = longest.value() == 1 ? BYTES : BYTES / 2;
        desk = desk();
        while (n > 0 && desk.cut(n).value() == 0) {
            n--;
        }
        answers.add("the tape's length = " + n);
    }
}
