import java.util.EnumSet;
import java.util.Set;
import java.util.function.Function;

/** What each call changes: the part of the object that its promise names, and no other. */
public final class ChangeTest extends Sentences {
    private static final Set<View.Part> NOTHING = EnumSet.noneOf(View.Part.class);
    private static final Set<View.Part> PROCESS = EnumSet.of(View.Part.PROCESS);
    private static final Set<View.Part> FILE = EnumSet.of(View.Part.FILE);
    private static final Set<View.Part> TAPE = EnumSet.of(View.Part.TAPE);
    private static final Set<View.Part> ERRORS = EnumSet.of(View.Part.ERRORS);
    private static final Set<View.Part> CORE_AND_ERRORS = EnumSet.of(View.Part.CORE, View.Part.ERRORS);

    public static void main(String[] args) {
        new ChangeTest().run();
    }

    @Override
    void tests() {
        sentence("Promises 2 to 7: a call that is answered by true or a number changes the process alone", this::process);
        sentence("Promise 8: THE FILE is put out, and nothing else changes", this::file);
        sentence("Promises 10 to 12: the tape is another, and nothing else changes", this::tape);
        sentence("Promise 13: the tape is the core from then on, and nothing else changes", this::rightLoad);
        sentence("Promise 13: if it is WRONG, what error answers changes alone", this::wrongLoad);
        sentence("Promises 9 and 14 to 20: a question changes nothing", this::questions);
        sentence("Nothing is promised beyond the changes described: a refused call changes nothing", this::refusals);
    }

    /** On a desk whose process, file, tape and core all differ, so that none can be taken for another. */
    private void changes(Set<View.Part> parts, Function<Desk, Answer> call, long answer) {
        changed(Sentences::busy, call, answer, parts);
    }

    private void process() {
        changes(PROCESS, desk -> desk.map(320, 1, 2), 1);
        changes(PROCESS, desk -> desk.map(0, 1, 2), 1);
        changes(PROCESS, desk -> desk.unmap(64), 1);
        changes(PROCESS, desk -> desk.unmap(192), 1);
        changes(PROCESS, desk -> desk.poke(70, 5), 1);
        changes(PROCESS, desk -> desk.pokeFour(192, 0x01020304), 1);
        changes(PROCESS, desk -> desk.thread(9), 2);
        changes(PROCESS, desk -> desk.set(0, 3, 4), 1);
        changes(NOTHING, desk -> desk.poke(64, 201), 1);
        changes(NOTHING, desk -> desk.set(1, 0, 77), 1);
    }

    private void file() {
        changes(FILE, Desk::dump, 452);
    }

    private void tape() {
        changes(TAPE, Desk::copy, 452);
        changes(TAPE, desk -> desk.put(332, 7), 1);
        changes(TAPE, desk -> desk.put(396, 7), 1);
        changes(TAPE, desk -> desk.put(0, 7), 1);
        changes(TAPE, desk -> desk.cut(395), 1);
        changes(TAPE, desk -> desk.cut(0), 1);
        changes(NOTHING, desk -> desk.put(332, 202), 1);
        changes(NOTHING, desk -> desk.cut(396), 1);
    }

    private void rightLoad() {
        changes(CORE_AND_ERRORS, Desk::load, 2);
    }

    private void wrongLoad() {
        changed(desk -> {
            busy(desk);
            desk.cut(395).yes();
        }, Desk::load, Answer.THROWN, ERRORS);
    }

    private void questions() {
        changes(NOTHING, desk -> desk.byteAt(0), 127);
        changes(NOTHING, desk -> desk.error(0), 2);
        changes(NOTHING, desk -> desk.core(1), 1);
        changes(NOTHING, desk -> desk.peek(319), 9);
        changes(NOTHING, desk -> desk.flags(64), 3);
        changes(NOTHING, desk -> desk.register(0, 7), 64);
        changes(NOTHING, desk -> desk.find(1000, 0), 68);
        changes(NOTHING, desk -> desk.caller(0, 0), 1000);
    }

    private void refusals() {
        changes(NOTHING, desk -> desk.map(64, 1, 0), 0);
        changes(NOTHING, desk -> desk.unmap(128), 0);
        changes(NOTHING, desk -> desk.poke(128, 1), 0);
        changes(NOTHING, desk -> desk.pokeFour(126, 1), 0);
        changes(NOTHING, desk -> desk.thread(5), -1);
        changes(NOTHING, desk -> desk.set(2, 0, 1), 0);
        changes(NOTHING, desk -> desk.put(397, 1), 0);
        changes(NOTHING, desk -> desk.cut(397), 0);
        changes(NOTHING, desk -> desk.register(1, 0), Answer.THROWN);
    }
}
