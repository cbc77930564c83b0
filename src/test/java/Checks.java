import java.util.function.Predicate;
import java.util.function.Supplier;
import java.util.function.ToLongFunction;

/** Compares answers with those that are due, and tells at the end whether all were right. */
final class Checks {
    private final String name;
    private int wrong;

    Checks(String name) {
        this.name = name;
    }

    void due(String what, long got, long want) {
        if (got != want) {
            tell(what + " answered " + got + ", due is " + want);
        }
    }

    void due(String what, boolean got, boolean want) {
        due(what, got ? 1 : 0, want ? 1 : 0);
    }

    /** The call is done, and STATUS is 0 behind it, whatever it was before. */
    void done(String what, RankBook x, ToLongFunction<RankBook> call, long want) {
        x.folio(0);
        due(what, call.applyAsLong(x), want);
        due(what + ": status()", x.status(), 0);
    }

    void did(String what, RankBook x, Predicate<RankBook> call) {
        done(what, x, y -> call.test(y) ? 1 : 0, 1);
    }

    /** The call answers NONE with this STATUS, and nothing else that can be seen is changed. */
    void refused(String what, Supplier<RankBook> scene, ToLongFunction<RankBook> call, int status) {
        refused(what, scene, call, status, RankBook.NONE, true);
    }

    void denied(String what, Supplier<RankBook> scene, Predicate<RankBook> call, int status) {
        refused(what, scene, y -> call.test(y) ? 1 : 0, status, 0, true);
    }

    /** As refused(), of a call that adds to the circles, which therefore are not compared. */
    void circled(String what, Supplier<RankBook> scene, ToLongFunction<RankBook> call) {
        refused(what, scene, call, 9, RankBook.NONE, false);
    }

    private void refused(String what, Supplier<RankBook> scene, ToLongFunction<RankBook> call,
            int status, long answer, boolean withCircles) {
        RankBook x = scene.get();
        String before = picture(x, withCircles);
        due(what, call.applyAsLong(x), answer);
        due(what + ": status()", x.status(), status);
        String after = picture(x, withCircles);
        if (!before.equals(after)) {
            tell(what + " was refused, but changed\n  " + before + "\n  to\n  " + after);
        }
    }

    /** The call leaves STATUS as it was. */
    void tellsAlone(String what, RankBook x, ToLongFunction<RankBook> call, long want) {
        x.folio(0);
        due(what, call.applyAsLong(x), want);
        due(what + " leaves status()", x.status(), 5);
    }

    /** What can be seen of the first two folios and of the first ten entries. */
    static String picture(RankBook x, boolean withCircles) {
        StringBuilder all = new StringBuilder();
        for (int i = 0; i < 6; i++) {
            all.append(x.count(i)).append(' ');
        }
        if (withCircles) {
            all.append("circles ").append(x.count(6)).append(' ').append(x.circle(0)).append(' ');
        }
        for (int e = 1; e <= Math.min(10, x.count(2)); e++) {
            all.append("| ").append(x.sum(e)).append(' ').append(x.due(e)).append(' ')
                    .append(x.parcels(e)).append(' ').append(x.share(e));
            for (int what = 3; what <= 9; what++) {
                all.append(' ').append(x.kind(e, what));
            }
        }
        for (int f = 0; f < Math.min(2, x.count(1)); f++) {
            for (int p = 0; p < 3; p++) {
                all.append("| order");
                for (int i = 0; i < 4; i++) {
                    all.append(' ').append(x.list(f, p, i));
                }
            }
        }
        return all.append(" as ").append(x.as(0, x.count(0), x.count(0), 0)).toString();
    }

    private void tell(String text) {
        wrong++;
        System.out.println(name + ": " + text);
    }

    void finish() {
        System.out.println(name + ": " + (wrong == 0 ? "as due" : wrong + " answers are not as due"));
        if (wrong != 0) {
            System.exit(1);
        }
    }
}
