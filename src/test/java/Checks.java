import java.util.function.Function;
import java.util.function.Predicate;
import java.util.function.Supplier;
import java.util.function.ToLongFunction;

/** Compares answers with those that are due, and tells at the end whether all were right. */
final class Checks {
    private final String name;
    private int wrong;

    Checks(String name) {
        this.name = name;
    }

    void due(String what, long got, long want) {
        if (got != want) {
            tell(what + " answered " + got + ", due is " + want);
        }
    }

    void due(String what, boolean got, boolean want) {
        due(what, got ? 1 : 0, want ? 1 : 0);
    }

    /** The call is done, and STATUS is 0 behind it, whatever it was before. */
    void done(String what, RankBook x, ToLongFunction<RankBook> call, long want) {
        x.folio(0);
        due(what, call.applyAsLong(x), want);
        due(what + ": status()", x.status(), 0);
    }

    void did(String what, RankBook x, Predicate<RankBook> call) {
        done(what, x, y -> call.test(y) ? 1 : 0, 1);
    }

    /**
     * The call answers NONE with this STATUS, and changes nothing else: whatever is asked or done
     * next is answered as by a book on which it was not called.
     */
    void refused(String what, Supplier<RankBook> scene, ToLongFunction<RankBook> call, int status) {
        refused(what, scene, call, status, RankBook.NONE, true);
    }

    void denied(String what, Supplier<RankBook> scene, Predicate<RankBook> call, int status) {
        refused(what, scene, y -> call.test(y) ? 1 : 0, status, 0, true);
    }

    /** As refused(), of a call that adds to the circles, which therefore are not compared. */
    void circled(String what, Supplier<RankBook> scene, ToLongFunction<RankBook> call) {
        refused(what, scene, call, 9, RankBook.NONE, false);
    }

    private void refused(String what, Supplier<RankBook> scene, ToLongFunction<RankBook> call,
            int status, long answer, boolean withCircles) {
        RankBook x = scene.get();
        due(what, call.applyAsLong(x), answer);
        due(what + ": status()", x.status(), status);
        for (Function<RankBook, String> probe : Probes.all(withCircles)) {
            RankBook called = scene.get();
            call.applyAsLong(called);
            String before = probe.apply(scene.get());
            String after = probe.apply(called);
            if (!before.equals(after)) {
                tell(what + " was refused, but changed\n  " + before + "\n  to\n  " + after);
            }
        }
    }

    /** The call leaves STATUS as it was. */
    void tellsAlone(String what, RankBook x, ToLongFunction<RankBook> call, long want) {
        x.folio(0);
        due(what, call.applyAsLong(x), want);
        due(what + " leaves status()", x.status(), 5);
    }

    private void tell(String text) {
        wrong++;
        System.out.println(name + ": " + text);
    }

    void finish() {
        System.out.println(name + ": " + (wrong == 0 ? "as due" : wrong + " answers are not as due"));
        if (wrong != 0) {
            System.exit(1);
        }
    }
}
