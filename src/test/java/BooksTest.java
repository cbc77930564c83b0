import java.util.function.Supplier;
import java.util.function.ToLongFunction;

/** The empty book and the full one: each call on a book without anything, and at its limits. */
final class BooksTest {
    private static final long MOST = 999_999_999_999L;
    private static final long ALL_PARCELS = (1L << 60) - 1;
    private static final Checks C = new Checks("BooksTest");

    public static void main(String[] args) {
        emptyRefuses();
        emptyIsDone();
        emptyTells();
        withoutEntries();
        lastRoom();
        noRoom();
        roomIsNotGivenBack();
        fullGoesOn();
        fullIsTold();
        fullIsSold();
        C.finish();
    }

    private static long flag(boolean done) {
        return done ? 1 : RankBook.NONE;
    }

    private static void emptyRefuses(String what, ToLongFunction<RankBook> call, int status) {
        C.refused(what + " of an empty book", RankBook::new, call, status);
    }

    private static void emptyRefuses() {
        emptyRefuses("3: tear", x -> flag(x.tear(0, 0)), 1);
        emptyRefuses("6: enter", x -> x.enter(0, 1, 5, 0, 1), 1);
        emptyRefuses("7: claim", x -> flag(x.claim(1, 0, 1)), 1);
        emptyRefuses("8: owe", x -> flag(x.owe(1, 0)), 1);
        emptyRefuses("9: pay", x -> x.pay(1, 0), 1);
        emptyRefuses("10: paper", x -> flag(x.paper(1, true)), 1);
        emptyRefuses("11: split", x -> x.split(1, 0), 1);
        emptyRefuses("12: hand", x -> x.hand(1, 0, 1), 1);
        emptyRefuses("13: post", x -> x.post(1, 2, 0), 1);
        emptyRefuses("14: undo", x -> flag(x.undo(1)), 1);
        emptyRefuses("15: release", x -> flag(x.release(1, 0)), 1);
        emptyRefuses("16: strike", x -> flag(x.strike(1)), 1);
        emptyRefuses("17: keep", x -> flag(x.keep(1, 2)), 1);
        emptyRefuses("18: many", x -> x.many(0, 0), 1);
        emptyRefuses("19: list", x -> x.list(0, 0, 0), 1);
        emptyRefuses("20: rank", x -> x.rank(1, 0), 1);
        emptyRefuses("21: why", x -> x.why(1, 0), 1);
        emptyRefuses("22: as", x -> x.as(0, 0, 0, 0), 1);
        emptyRefuses("23: choose", x -> flag(x.choose(0)), 1);
        emptyRefuses("24: sale", x -> x.sale(0, 0, 0, 0), 1);
        emptyRefuses("25: sell", x -> x.sell(0, 0, 0, 0), 1);
        emptyRefuses("27: tell", x -> flag(x.tell(1, 0)), 1);
    }

    private static void emptyIsDone() {
        C.done("2: folio of an empty book", new RankBook(), x -> x.folio(1), 0);
        C.did("4: day of an empty book", new RankBook(), x -> x.day(0));
        C.did("5: since of an empty book", new RankBook(), x -> x.since(0));
        C.done("28: check of an empty book", new RankBook(), x -> x.check(0), 0);
        C.done("28: check of an empty book, the owner's", new RankBook(), x -> x.check(1), -1);
    }

    private static void emptyTells() {
        RankBook x = new RankBook();
        C.due("34: status at first", x.status(), 0);
        for (int what = 0; what <= 6; what++) {
            int w = what;
            C.tellsAlone("35: count " + what + " of an empty book", x, y -> y.count(w), 0);
        }
        for (int n : new int[] {-1, 0, 1}) {
            C.tellsAlone("26: share of an empty book", x, y -> y.share(n), 0);
            C.tellsAlone("29: circle of an empty book", x, y -> y.circle(n), -1);
            C.tellsAlone("30: due of an empty book", x, y -> y.due(n), -1);
            C.tellsAlone("31: kind of an empty book", x, y -> y.kind(n, 0), -1);
            C.tellsAlone("32: sum of an empty book", x, y -> y.sum(n), -1);
            C.tellsAlone("33: parcels of an empty book", x, y -> y.parcels(n), 0);
        }
    }

    /** A folio on which nothing lies, or nothing any more. */
    private static void withoutEntries() {
        RankBook x = new RankBook();
        x.folio(1);
        nothingThere("nothing was entered", x);
        x.enter(0, 6, 50, 9, 1);
        nothingThere("a caution alone", x);
        x.enter(0, 1, 50, 0, 1);
        C.done("18: one", x, y -> y.many(0, 0), 1);
        x.strike(2);
        nothingThere("struck", x);
        x.enter(0, 1, 50, 0, 1);
        x.release(3, 0);
        nothingThere("released", x);
        x.enter(0, 1, 50, 0, 1);
        x.sell(0, 0, 7, 0);
        nothingThere("sold", x);
    }

    private static void nothingThere(String why, RankBook x) {
        C.done("18: " + why, x, y -> y.many(0, 0), 0);
        C.due("19: " + why, x.list(0, 0, 0), -1);
        C.due("19: " + why + ": status()", x.status(), 5);
        C.due("22: " + why, x.as(0, 0, 0, 0), -1);
        C.due("22: " + why + ": status()", x.status(), 5);
        C.done("24: all is the owner's, " + why, x, y -> y.sale(0, 0, 90, 20), 70);
        C.done("28: and told so, " + why, x, y -> y.check(70), 0);
    }

    private static RankBook folios(int many) {
        RankBook x = new RankBook();
        for (int i = 0; i < many; i++) {
            x.folio(60);
        }
        return x;
    }

    /** So many charges of 10 on parcel 0 of one folio. */
    private static RankBook charges(int many) {
        RankBook x = folios(1);
        for (int i = 0; i < many; i++) {
            x.enter(0, 1, 10, 0, 1);
        }
        return x;
    }

    /** 102 charges, each of the first ones giving way to the next one by so many posts. */
    private static RankBook posts(int many) {
        RankBook x = charges(102);
        for (int i = 1; i <= many; i++) {
            x.post(i, i + 1, 1);
        }
        return x;
    }

    private static void lastRoom() {
        C.done("2: the last folio", folios(39), x -> x.folio(60), 39);
        C.done("6: the last entry", charges(299), x -> x.enter(0, 1, 10, 0, 1), 300);
        C.done("11: the last two parts", charges(298), x -> x.split(1, 5), 299);
        C.done("12: the last two parts", charges(298), x -> x.hand(1, 5, 5), 300);
        C.done("13: the last post", posts(99), x -> x.post(100, 101, 1), 100);
    }

    private static void noRoom() {
        C.refused("2: a folio too many", () -> folios(40), x -> x.folio(1), 10);
        C.refused("6: an entry too many", () -> charges(300), x -> x.enter(0, 1, 10, 0, 1), 10);
        C.refused("11: a part too many", () -> charges(299), x -> x.split(1, 5), 10);
        C.refused("11: two parts too many", () -> charges(300), x -> x.split(1, 5), 10);
        C.refused("12: a part too many", () -> charges(299), x -> x.hand(1, 5, 5), 10);
        C.refused("12: two parts too many", () -> charges(300), x -> x.hand(1, 5, 5), 10);
        C.refused("13: a post too many", () -> posts(100), x -> x.post(101, 102, 1), 10);
    }

    private static void roomIsNotGivenBack() {
        C.refused("2: parcels that are torn", () -> {
            RankBook x = folios(40);
            x.tear(39, 0);
            return x;
        }, x -> x.folio(1), 10);
        C.refused("6: entries that are struck", () -> {
            RankBook x = charges(300);
            x.strike(300);
            return x;
        }, x -> x.enter(0, 1, 10, 0, 1), 10);
        C.refused("13: posts that are undone", () -> {
            RankBook x = posts(100);
            x.undo(100);
            return x;
        }, x -> x.post(100, 101, 1), 10);
    }

    /**
     * 40 folios of 60 parcels, 300 entries, 100 posts: charges 1 to 98, top 99, order 100, claim
     * 101, caution 102, charge 103, then 98 times two parts, each of the second one before, and
     * charge 300. Charge i gives way to i + 1, and charge 1 to 103 as well.
     */
    private static RankBook full() {
        RankBook x = folios(40);
        x.day(10);
        for (int i = 1; i <= 103; i++) {
            int kind = i < 99 || i == 103 ? 1 : i == 99 ? 3 : i == 100 ? 2 : i == 101 ? 5 : 6;
            x.enter(39, kind, i < 99 ? 1000 : MOST, 0, ALL_PARCELS);
        }
        int last = 103;
        for (int i = 0; i < 98; i++) {
            last = x.split(last, 1) + 1;
        }
        x.enter(39, 1, 1000, 0, 1L << 59);
        for (int i = 1; i < 98; i++) {
            x.post(i, i + 1, 10);
        }
        x.post(1, 103, 10);
        x.post(1, 299, 10);
        x.post(1, 300, 10);
        return x;
    }

    private static void did(String what, ToLongFunction<RankBook> call) {
        RankBook x = full();
        x.folio(0);
        C.due(what + " of a full book", call.applyAsLong(x) != RankBook.NONE, true);
        C.due(what + " of a full book: status()", x.status(), 0);
    }

    /** What needs no room is done as ever. */
    private static void fullGoesOn() {
        did("3: tear", x -> flag(x.tear(39, 59)));
        did("4: day", x -> flag(x.day(36500)));
        did("5: since", x -> flag(x.since(0)));
        did("7: claim", x -> flag(x.claim(101, 36500, 30)));
        did("8: owe", x -> flag(x.owe(99, MOST)));
        did("9: pay", x -> x.pay(299, MOST - 98));
        did("10: paper", x -> flag(x.paper(100, false)));
        did("14: undo", x -> flag(x.undo(100)));
        did("15: release", x -> flag(x.release(300, 59)));
        did("16: strike", x -> flag(x.strike(300)));
        did("17: keep", x -> flag(x.keep(102, 300)));
        did("22: as", x -> x.choose(39) ? x.as(59, 10, 10, 102) : RankBook.NONE);
        did("23: choose", x -> flag(x.choose(39)));
        did("24: sale", x -> x.sale(39, 59, MOST, MOST));
        did("25: sell", x -> x.sell(39, 59, MOST, 0));
        did("27: tell", x -> flag(x.tell(300, 5)));
        did("28: check", x -> x.check(0));
        Supplier<RankBook> scene = BooksTest::full;
        C.refused("2: folio of a full book", scene, x -> x.folio(60), 10);
        C.refused("6: enter of a full book", scene, x -> x.enter(39, 1, 5, 0, 1), 10);
        C.refused("11: split of a full book", scene, x -> x.split(299, 5), 10);
        C.refused("12: hand of a full book", scene, x -> x.hand(299, 5, 5), 10);
        C.refused("13: post of a full book", scene, x -> x.post(300, 103, 5), 10);
        C.circled("13: a circle of a full book", scene, x -> x.post(300, 1, 5));
    }

    private static void fullIsTold() {
        RankBook x = full();
        C.due("35: folios", x.count(1), 40);
        C.due("35: entries", x.count(2), 300);
        C.due("35: posts", x.count(3), 100);
        C.due("18: a parcel without the last one", x.many(39, 0), 102);
        C.due("18: the last parcel", x.many(39, 59), 103);
        C.due("18: another folio", x.many(0, 59), 0);
        // post i brings i + 1 to the front: 98 1 2 .. 97 99 100 101 103 300; then 1 changes with
        // 103 and, behind that, with 300
        C.due("19: the first", x.list(39, 59, 0), 98);
        C.due("19: the second", x.list(39, 59, 1), 103);
        C.due("19: the third", x.list(39, 59, 2), 2);
        C.due("19: the last", x.list(39, 59, 102), 1);
        C.due("19: behind it", x.list(39, 59, 103), -1);
        C.due("20: the deepest part", x.rank(299, 59), 1);
        C.due("21: the first charge", x.why(1, 59), 3);
        C.due("21: the last charge", x.why(300, 59), 1);
        C.due("32: the parts together", x.sum(103), MOST);
        C.due("32: the deepest part", x.sum(299), MOST - 98);
        C.due("33: the deepest part", x.parcels(299), ALL_PARCELS);
        C.due("31: the deepest part's whole", x.kind(299, 2), 103);
        C.due("31: what it is a part of", x.kind(299, 3), 297);
        C.due("31: the last folio", x.kind(300, 1), 39);
        C.due("13: a circle of 99", x.post(98, 1, 0), -1);
        C.due("29: it begins with A's", x.circle(0), 98);
        C.due("29: then B's", x.circle(1), 1);
        C.due("29: its last", x.circle(97), 97);
        C.due("29: behind its end", x.circle(98), -1);
    }

    private static void fullIsSold() {
        RankBook x = full();
        x.owe(99, MOST);
        C.due("25: all that a sale may give", x.sell(39, 59, MOST, 0), 0);
        C.due("25: the first charge gave to the last", x.share(300), 10);
        C.due("25: the second charge", x.share(2), 1000);
        C.due("25: the top has what was left", x.share(99), MOST - 98 * 1000);
        C.due("25: what it lacked", x.sum(99), 98 * 1000);
        C.due("18: all are released", x.many(39, 59), 0);
        C.due("18: of this parcel", x.many(39, 58), 102);
        C.due("33: the deepest part", x.parcels(299), ALL_PARCELS >>> 1);
        C.due("33: the caution", x.parcels(102), ALL_PARCELS);
        C.due("35: sold", x.count(5), 1);
    }
}
