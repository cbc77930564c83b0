/** Promises 18 to 23: the order of a parcel, now and at other days. */
final class OrderTest {
    private static final Checks C = new Checks("OrderTest");

    public static void main(String[] args) {
        many();
        list();
        claimsFirst();
        rankAndWhy();
        as();
        asPartsAndTears();
        choose();
        C.finish();
    }

    /** Charges 1 to 3 and a caution 4 on parcels 0 and 1, parcel 2 torn, folio 1 with charge 5. */
    private static RankBook scene() {
        RankBook x = new RankBook();
        x.folio(3);
        x.folio(1);
        x.day(10);
        x.enter(0, 1, 100, 0, 3);
        x.enter(0, 1, 100, 0, 3);
        x.since(5);
        x.enter(0, 1, 100, 0, 1);
        x.enter(0, 6, 100, 9, 3);
        x.day(20);
        x.enter(1, 1, 100, 0, 1);
        x.tear(0, 2);
        return x;
    }

    private static void many() {
        RankBook x = scene();
        C.done("18: many(0, 0)", x, y -> y.many(0, 0), 3);
        C.done("18: many(0, 1)", x, y -> y.many(0, 1), 2);
        C.done("18: many(1, 0)", x, y -> y.many(1, 0), 1);
        C.refused("18: many(2, 0)", OrderTest::scene, y -> y.many(2, 0), 1);
        C.refused("18: many(-1, 5)", OrderTest::scene, y -> y.many(-1, 5), 1);
        C.refused("18: many(0, 3)", OrderTest::scene, y -> y.many(0, 3), 2);
        C.refused("18: many(0, -1)", OrderTest::scene, y -> y.many(0, -1), 2);
        C.refused("18: many(0, 2)", OrderTest::scene, y -> y.many(0, 2), 3);
    }

    private static void list() {
        RankBook x = scene();
        C.done("19: by the day", x, y -> y.list(0, 0, 0), 3);
        C.done("19: then by number", x, y -> y.list(0, 0, 1), 1);
        C.done("19: the last one", x, y -> y.list(0, 0, 2), 2);
        C.refused("19: behind it", OrderTest::scene, y -> y.list(0, 0, 3), 5);
        C.refused("19: i -1", OrderTest::scene, y -> y.list(0, 0, -1), 5);
        C.refused("19: i most", OrderTest::scene, y -> y.list(0, 0, Integer.MAX_VALUE), 5);
        C.refused("19: list(2, 0, 0)", OrderTest::scene, y -> y.list(2, 0, 0), 1);
        C.refused("19: list(0, 3, -1)", OrderTest::scene, y -> y.list(0, 3, -1), 2);
        C.refused("19: list(0, 2, -1)", OrderTest::scene, y -> y.list(0, 2, -1), 3);
    }

    private static void claimsFirst() {
        RankBook x = new RankBook();
        x.folio(1);
        x.enter(0, 1, 10, 0, 1);
        x.enter(0, 6, 7, 99, 1);
        x.day(5);
        x.enter(0, 5, 10, 0, 1);
        x.enter(0, 5, 10, 0, 1);
        x.since(2);
        x.enter(0, 5, 10, 0, 1);
        x.claim(3, 5, 1);
        x.claim(5, 9, 1);
        C.due("19: a claim ahead", x.list(0, 0, 0), 3);
        C.due("19: then all others", x.list(0, 0, 1), 1);
        C.due("19: a claim not yet ahead", x.list(0, 0, 2), 5);
        C.due("19: a claim that was not told", x.list(0, 0, 3), 4);
        x.day(9);
        C.due("19: claims among them by the day", x.list(0, 0, 0), 5);
        C.due("19: the next claim", x.list(0, 0, 1), 3);
        C.due("19: kept", x.keep(2, 3), true);
        C.due("19: a kept claim has its own place ahead", x.rank(3, 0), 1);
        C.due("19: and is paid there first", x.sale(0, 0, 20, 0), 0);
        C.due("19: share(3)", x.share(3), 10);
        C.due("19: share(5)", x.share(5), 10);
        RankBook z = new RankBook();
        z.folio(1);
        z.enter(0, 6, 7, 99, 1);
        z.enter(0, 1, 10, 0, 1);
        z.enter(0, 5, 10, 0, 1);
        z.claim(3, 8, 1);
        z.keep(1, 3);
        C.due("19: a claim by its caution", z.rank(3, 0), 0);
        z.enter(0, 5, 10, 0, 1);
        z.claim(4, 0, 1);
        C.due("19: not ahead of claims", z.rank(3, 0), 1);
    }

    private static RankBook posted() {
        RankBook x = scene();
        x.post(3, 2, 5);
        x.post(1, 2, 5);
        x.post(3, 1, 5);
        x.post(1, 2, 5);
        return x;
    }

    private static void rankAndWhy() {
        // 3 1 2; post 1: 2 1 3; post 2 changes nothing, nor do the others
        RankBook x = posted();
        C.done("20: rank(2, 0)", x, y -> y.rank(2, 0), 0);
        C.done("20: rank(1, 0)", x, y -> y.rank(1, 0), 1);
        C.done("20: rank(3, 0)", x, y -> y.rank(3, 0), 2);
        C.done("21: why(2, 0)", x, y -> y.why(2, 0), 1);
        C.done("21: why(3, 0)", x, y -> y.why(3, 0), 1);
        C.done("21: why(1, 0)", x, y -> y.why(1, 0), 0);
        x.undo(1);
        // 3 1 2; post 2: 3 2 1; post 3: 1 2 3; post 4: 2 1 3
        C.due("21: undone, rank(2, 0)", x.rank(2, 0), 0);
        C.due("21: undone, rank(3, 0)", x.rank(3, 0), 2);
        C.done("21: undone, why(1, 0)", x, y -> y.why(1, 0), 3);
        C.done("21: undone, why(2, 0)", x, y -> y.why(2, 0), 2);
        C.done("21: undone, why(3, 0)", x, y -> y.why(3, 0), 1);
        C.done("21: on another parcel", x, y -> y.why(1, 1), 1);
        x.split(1, 5);
        C.done("20: of a part", x, y -> y.rank(7, 0), 1);
        C.done("21: of a part", x, y -> y.why(7, 0), 3);
        rankRefused();
    }

    private static void rankRefused() {
        for (int e : new int[] {0, 6, -1, Integer.MAX_VALUE}) {
            C.refused("20: rank(" + e + ", 9)", OrderTest::posted, y -> y.rank(e, 9), 1);
            C.refused("21: why(" + e + ", 9)", OrderTest::posted, y -> y.why(e, 9), 1);
        }
        for (int p : new int[] {-1, 3, 64, Integer.MIN_VALUE}) {
            C.refused("20: rank(3, " + p + ")", OrderTest::posted, y -> y.rank(3, p), 2);
            C.refused("21: why(3, " + p + ")", OrderTest::posted, y -> y.why(3, p), 2);
        }
        C.refused("20: torn", OrderTest::posted, y -> y.rank(3, 2), 3);
        C.refused("21: torn", OrderTest::posted, y -> y.why(4, 2), 3);
        C.refused("20: not there", OrderTest::posted, y -> y.rank(3, 1), 6);
        C.refused("21: not there", OrderTest::posted, y -> y.why(3, 1), 6);
        C.refused("20: a caution", OrderTest::posted, y -> y.rank(4, 0), 6);
        C.refused("21: a caution", OrderTest::posted, y -> y.why(4, 0), 6);
        C.refused("20: struck", OrderTest::struck, y -> y.rank(1, 0), 6);
        C.refused("21: struck", OrderTest::struck, y -> y.why(1, 0), 6);
    }

    private static RankBook struck() {
        RankBook x = posted();
        x.strike(1);
        return x;
    }

    private static void as() {
        RankBook x = scene();
        C.done("22: dated 5, known 10", x, y -> y.as(0, 5, 10, 0), 3);
        C.due("22: alone", x.as(0, 5, 10, 1), -1);
        C.due("22: alone: status()", x.status(), 5);
        C.due("22: on day 4 there is none", x.as(0, 4, 20, 0), -1);
        C.due("22: known on day 9 there is none", x.as(0, 9, 9, 0), -1);
        C.done("22: on day 10", x, y -> y.as(0, 10, 10, 1), 1);
        C.done("22: now", x, y -> y.as(0, 20, 20, 2), 2);
        C.done("22: a day behind what is known", x, y -> y.as(0, 20, 10, 2), 2);
        C.refused("22: day -1", OrderTest::scene, y -> y.as(0, -1, 20, 0), 5);
        C.refused("22: known -1", OrderTest::scene, y -> y.as(0, 20, -1, 0), 5);
        C.refused("22: day 21", OrderTest::scene, y -> y.as(0, 21, 20, 0), 5);
        C.refused("22: known 21", OrderTest::scene, y -> y.as(0, 20, 21, 0), 5);
        C.refused("22: i 3", OrderTest::scene, y -> y.as(0, 20, 20, 3), 5);
        C.refused("22: i -1", OrderTest::scene, y -> y.as(0, 20, 20, -1), 5);
        C.refused("22: parcel 3", OrderTest::scene, y -> y.as(3, 99, 99, 0), 2);
        C.refused("22: parcel -1", OrderTest::scene, y -> y.as(-1, 20, 20, 0), 2);
        C.refused("22: torn", OrderTest::scene, y -> y.as(2, 99, 99, 0), 3);
        C.refused("22: no folio", RankBook::new, y -> y.as(9, 99, 99, 0), 1);
    }

    private static void asPartsAndTears() {
        RankBook x = scene();
        x.split(3, 50);
        x.release(6, 0);
        C.due("22: before, it lay by either part", x.as(0, 19, 20, 0), 3);
        x.release(7, 0);
        C.due("22: released on day 20", x.as(0, 20, 20, 0), 1);
        C.due("22: not on day 19", x.as(0, 19, 20, 0), 3);
        x.day(30);
        x.sell(0, 0, 150, 0);
        C.due("22: sold on day 30", x.as(0, 30, 30, 0), -1);
        C.due("22: sold on day 30: status()", x.status(), 5);
        C.due("22: the day before", x.as(0, 29, 30, 0), 1);
        x.tear(0, 0);
        C.due("22: torn at any day", x.as(0, 19, 19, 0), -1);
        C.due("22: torn at any day: status()", x.status(), 3);
        RankBook y = scene();
        y.day(30);
        y.since(20);
        y.sell(0, 0, 0, 0);
        C.due("22: a sale is dated today", y.as(0, 29, 30, 0), 3);
    }

    private static void choose() {
        RankBook x = scene();
        C.due("23: 0 at first", x.as(0, 20, 20, 0), 3);
        C.did("23: choose(1)", x, y -> y.choose(1));
        C.due("23: as(0, 20, 20, 0)", x.as(0, 20, 20, 0), 5);
        C.due("23: its parcels", x.as(1, 20, 20, 0), -1);
        C.due("23: its parcels: status()", x.status(), 2);
        C.due("23: list() asks for its own", x.list(0, 0, 0), 3);
        C.due("23: choose(2)", x.choose(2), false);
        C.due("23: choose(2): status()", x.status(), 1);
        C.due("23: it is left", x.as(0, 20, 20, 0), 5);
        C.did("23: choose(0)", x, y -> y.choose(0));
        C.due("23: 0 again", x.as(0, 20, 20, 0), 3);
        C.denied("23: choose(-1)", OrderTest::scene, y -> y.choose(-1), 1);
        C.denied("23: choose(0) of none", RankBook::new, y -> y.choose(0), 1);
    }
}
