import java.util.EnumSet;
import java.util.List;
import java.util.Set;
import java.util.function.Consumer;
import java.util.function.Function;

/** Tests by the document's sentences: each has a test of its own, named by the sentence's words. */
abstract class Sentences {
    static final int LEAST = -2147483648;
    static final int LAST = 2147483647;
    static final int LAST_PAGE = 2147483584;

    final Due due = new Due();

    abstract void tests();

    final void run() {
        tests();
        due.end();
    }

    final void sentence(String words, Runnable test) {
        due.begin(words);
        int before = due.asked();
        try {
            test.run();
        } catch (RuntimeException e) {
            due.fault("the test ended by " + e);
        }
        due.yes("the test asks for something", due.asked() > before);
    }

    final Desk desk() {
        return desk("");
    }

    final Desk desk(String name) {
        return new Desk(due, name);
    }

    /** Two regions and two threads; its process, file, tape and core all differ from one another. */
    static void loaded(Desk desk) {
        desk.map(64, 1, 3).yes();
        desk.map(192, 2, 5).yes();
        desk.pokeFour(64, 200).yes();
        desk.pokeFour(68, 1000).yes();
        desk.poke(319, 9).yes();
        desk.thread(5).is(0);
        desk.set(0, 7, 64).yes();
        desk.reload(2);
        desk.thread(-6).is(1);
        desk.set(1, 0, 77).yes();
        desk.poke(64, 201).yes();
        desk.dump().is(452);
        desk.set(1, 7, 192).yes();
        desk.poke(127, 255).yes();
        desk.put(332, 202).yes();
    }

    /** The same behind a load that was wrong, of a tape that has been mended since. */
    static void busy(Desk desk) {
        loaded(desk);
        desk.put(16, 5).yes();
        desk.wrong(2, 16);
        desk.put(16, 4).yes();
    }

    /** The call answers as is due, and all that can be seen of the desk is as it was before. */
    final void unchanged(Consumer<Desk> story, Function<Desk, Answer> call, long answer) {
        changed(story, call, answer, EnumSet.noneOf(View.Part.class));
    }

    /** The call answers as is due, changes these parts of the desk, and nothing of the others. */
    final void changed(Consumer<Desk> story, Function<Desk, Answer> call, long answer, Set<View.Part> parts) {
        Desk desk = desk();
        story.accept(desk);
        Answer got = call.apply(desk);
        got.is(answer);
        sameButFor(parts, "after " + got.call(), story, story.andThen(call::apply));
    }

    /** Loads that throw: what error answers is as it must be, all else as it was. */
    final void unchangedByLoad(String name, Consumer<Desk> story, int kind, int place) {
        Desk desk = desk(name);
        story.accept(desk);
        desk.wrong(kind, place);
        sameButFor(EnumSet.of(View.Part.ERRORS), name + ", load()", story, story.andThen(Desk::load));
    }

    private void sameButFor(Set<View.Part> parts, String what, Consumer<Desk> before, Consumer<Desk> after) {
        for (View.Part part : View.Part.values()) {
            List<String> want = View.of(due, before, part);
            List<String> got = View.of(due, after, part);
            if (parts.contains(part)) {
                due.no(what + ", " + part + " is as it was", got.equals(want));
            } else {
                sameViews(what + ", " + part, got, want);
            }
        }
    }

    private void sameViews(String what, List<String> got, List<String> want) {
        for (int i = 0; i < want.size() && i < got.size(); i++) {
            due.text(what, got.get(i), want.get(i));
        }
        due.same(what + ", answers", got.size(), want.size());
    }
}
