import java.util.function.Consumer;
import java.util.function.Predicate;

/**
 * Acts count at a day as known on another one if they are dated that day or earlier and known the
 * other one or earlier: each act that the order shows, one day on either side of both.
 */
final class ActsTest {
    private static final int[] DAYS = {0, 9, 10, 11, 19, 20, 21, 29, 30, 31, 40};
    private static final Checks C = new Checks("ActsTest");

    public static void main(String[] args) {
        both("6: enter", x -> { }, x -> x.enter(0, 1, 5, 0, 1), -1, 4, 3);
        both("7: claim", x -> { }, x -> x.claim(3, 0, 1), 1, 3, 0);
        both("13: post", x -> { }, x -> x.post(1, 3, 5), 1, 3, 0);
        both("14: undo", x -> x.post(1, 3, 5), x -> x.undo(1), 3, 1, 0);
        both("15: release", x -> { }, x -> x.release(1, 0), 1, 2, 0);
        both("15: release of the last leaf", ActsTest::parts, x -> x.release(5, 0), 1, 2, 0);
        both("16: strike", x -> { }, x -> x.strike(1), 1, 2, 0);
        both("17: keep", ActsTest::caution, x -> x.keep(4, 3), 1, 3, 0);
        both("17: a caution that is struck", ActsTest::kept, x -> x.strike(4), 3, 1, 0);
        both("17: a caution that is released", ActsTest::kept, x -> x.release(4, 0), 3, 1, 0);
        sell();
        claimFrom();
        releasesOfTwoDays();
        partsAndTears();
        nowIsToday();
        doneAlready();
        C.finish();
    }

    /** Charges 1, 2 and claim 3, of day 5, on both parcels. */
    private static RankBook scene(Consumer<RankBook> before) {
        RankBook x = new RankBook();
        x.folio(2);
        x.day(5);
        x.enter(0, 1, 100, 0, 3);
        x.enter(0, 1, 100, 0, 3);
        x.enter(0, 5, 100, 0, 3);
        x.since(0);
        before.accept(x);
        x.day(6);
        return x;
    }

    private static void parts(RankBook x) {
        x.split(1, 40); // 4, 5
        x.release(4, 0);
    }

    /** It is of day 0, and so stands ahead of all. */
    private static void caution(RankBook x) {
        x.enter(0, 6, 50, 9, 3);
    }

    private static void kept(RankBook x) {
        caution(x);
        x.keep(4, 3);
    }

    /** The act on day 30, once dated 20, once dated the day itself. */
    private static void both(String what, Consumer<RankBook> before, Consumer<RankBook> act,
            int without, int with, int i) {
        for (int dated : new int[] {20, 30}) {
            RankBook x = scene(before);
            x.day(30);
            if (dated != 30) {
                x.since(dated);
            }
            act.accept(x);
            C.due(what + " is done", x.status(), 0);
            x.day(40);
            counts(what + " dated " + dated, x, dated, 30, without, with, i);
        }
    }

    /** From day 6 on all that is there before the act counts. */
    private static void counts(String what, RankBook x, int dated, int known, int without, int with, int i) {
        for (int day : DAYS) {
            for (int knownOn : DAYS) {
                if (day > 5 && knownOn > 5) {
                    int want = day >= dated && knownOn >= known ? with : without;
                    C.due(what + ": as(0, " + day + ", " + knownOn + ", " + i + ")",
                            x.as(0, day, knownOn, i), want);
                }
            }
        }
    }

    /** A sale is dated and known today, whatever since() told. */
    private static void sell() {
        RankBook x = scene(y -> { });
        x.day(30);
        x.since(20);
        x.sell(0, 0, 50, 0);
        x.day(40);
        counts("25: sell", x, 30, 30, 1, -1, 0);
    }

    /** A claim is ahead from its day on; the act that says so is dated 20 and known 30. */
    private static void claimFrom() {
        for (int from : new int[] {10, 20, 21, 29, 31, 40}) {
            RankBook x = scene(y -> { });
            x.day(30);
            x.since(20);
            x.claim(3, from, 1);
            x.day(40);
            counts("7: claim from " + from, x, Math.max(20, from), 30, 1, 3, 0);
        }
    }

    /** A part on day 30, then its whole since day 20: from then on the part is released, too. */
    private static void releasesOfTwoDays() {
        RankBook x = scene(y -> y.split(1, 40));
        x.day(30);
        x.release(4, 0);
        x.day(35);
        x.since(20);
        x.release(1, 0);
        C.due("15: on day 19 it lies there", x.as(0, 19, 35, 0), 1);
        C.due("15: on day 20 it does not", x.as(0, 20, 35, 0), 2);
        C.due("15: as known on day 34 it does, by the other part", x.as(0, 34, 34, 0), 1);
        C.due("15: on the other parcel it does", x.as(1, 35, 35, 0), 1);
    }

    private static void partsAndTears() {
        RankBook x = scene(y -> { });
        x.day(30);
        x.release(1, 0);
        x.day(35);
        x.split(1, 40); // 4, 5
        C.due("15: parts that come later are released since", x.as(0, 30, 30, 0), 2);
        C.due("15: and were not before", x.as(0, 29, 30, 0), 1);
        C.due("15: now", x.parcels(4), 2);
        x.tear(0, 1);
        for (int day : new int[] {0, 6, 34, 35}) {
            C.due("3: torn at day " + day, x.as(1, day, day, 0), -1);
            C.due("3: torn at day " + day + ": status()", x.status(), 3);
        }
    }

    private static void nowIsToday() {
        RankBook x = scene(ActsTest::kept);
        x.day(30);
        x.since(20);
        x.post(3, 2, 5);
        for (int i = -1; i < 4; i++) {
            C.due("22: now, i " + i, x.as(0, 30, 30, i), x.list(0, 0, i));
        }
        C.due("22: now, the first", x.as(0, 30, 30, 0), 2);
    }

    /** What was done on day 10 and is refused on day 20, dated otherwise, keeps its first date. */
    private static void doneAlready() {
        again("7: claim", x -> { }, x -> x.claim(3, 0, 1), 8);
        again("14: undo", x -> x.post(1, 3, 5), x -> x.undo(1), 8);
        again("15: release", x -> { }, x -> x.release(1, 0), 6);
        again("15: release of a part", x -> x.split(1, 40), x -> x.release(4, 0), 6);
        again("15: release of what a sale released", x -> { }, x -> x.sell(0, 0, 50, 0),
                x -> x.release(1, 0), 6);
        again("16: strike", x -> { }, x -> x.strike(1), 6);
        again("17: keep", ActsTest::caution, x -> x.keep(4, 3), 8);
    }

    private static void again(String what, Consumer<RankBook> before, Predicate<RankBook> act, int status) {
        again(what, before, act::test, act, status);
    }

    private static void again(String what, Consumer<RankBook> before, Consumer<RankBook> first,
            Predicate<RankBook> second, int status) {
        for (int dated : new int[] {6, 15, 20}) {
            C.denied(what + " again, dated " + dated, () -> {
                RankBook x = scene(before);
                x.day(10);
                first.accept(x);
                x.day(20);
                x.since(dated);
                return x;
            }, second, status);
        }
    }
}
