/** Promises 11 and 12: parts. */
final class PartsTest {
    private static final Checks C = new Checks("PartsTest");

    public static void main(String[] args) {
        split();
        splitRefused();
        hand();
        handRefused();
        room();
        deep();
        C.finish();
    }

    /** One entry of each kind, numbered as its kind. */
    private static RankBook scene() {
        RankBook x = new RankBook();
        x.folio(2);
        for (int kind = 1; kind <= 6; kind++) {
            x.enter(0, kind, 100, 50, 3);
        }
        x.owe(3, 60);
        return x;
    }

    private static RankBook struckParts() {
        RankBook x = scene();
        x.split(2, 40);
        x.paper(2, false);
        x.strike(2);
        return x;
    }

    private static RankBook lostPaper() {
        RankBook x = scene();
        x.split(2, 40);
        x.paper(2, false);
        return x;
    }

    private static void split() {
        RankBook x = scene();
        C.done("11: split(1, 40)", x, y -> y.split(1, 40), 7);
        C.due("11: sum of the first", x.sum(7), 40);
        C.due("11: sum of the second", x.sum(8), 60);
        C.due("11: sum of the whole", x.sum(1), 100);
        C.due("11: its parts", x.kind(1, 8), 2);
        C.due("11: a part of", x.kind(8, 3), 1);
        C.due("11: its whole", x.kind(8, 2), 1);
        C.due("11: its kind", x.kind(8, 0), 1);
        C.due("11: its folio", x.kind(8, 1), 0);
        C.due("11: it lives", x.kind(8, 5), 1);
        C.due("11: its parcels", x.parcels(8), 3);
        C.due("11: its rank", x.rank(8, 0), 0);
        C.due("11: a part is no whole", x.many(0, 0), 5);
        C.done("11: nothing in the first", x, y -> y.split(7, 0), 9);
        C.done("11: nothing in the second", x, y -> y.split(10, 40), 11);
        C.due("11: the whole has two parts still", x.kind(1, 8), 2);
        C.due("11: a part of a part", x.kind(12, 3), 10);
        C.due("11: the whole of a part of a part", x.kind(12, 2), 1);
        C.done("11: a top by what it owes", x, y -> y.split(3, 60), 13);
        C.done("11: a claim", x, y -> y.split(5, 1), 15);
        x.paper(2, false);
        C.done("11: without a paper", x, y -> y.split(2, 1), 17);
        RankBook z = scene();
        z.hand(1, 30, 9);
        z.split(8, 10);
        C.due("11: both its owner's", z.kind(9, 4), 9);
        C.due("11: both its owner's, too", z.kind(10, 4), 9);
    }

    private static void splitRefused() {
        C.refused("11: split(0, 1)", PartsTest::scene, y -> y.split(0, 1), 1);
        C.refused("11: split(7, -1)", PartsTest::scene, y -> y.split(7, -1), 1);
        C.refused("11: a rent", PartsTest::scene, y -> y.split(4, -1), 4);
        C.refused("11: a caution", PartsTest::scene, y -> y.split(6, 1), 4);
        C.refused("11: split(1, -1)", PartsTest::scene, y -> y.split(1, -1), 5);
        C.refused("11: split(1, 101)", PartsTest::scene, y -> y.split(1, 101), 5);
        C.refused("11: more than a top owes", PartsTest::scene, y -> y.split(3, 61), 5);
        C.refused("11: struck", PartsTest::struckParts, y -> y.split(7, 1), 6);
        C.refused("11: struck, with parts", PartsTest::struckParts, y -> y.split(2, 1), 6);
        C.refused("11: struck, out of range", PartsTest::struckParts, y -> y.split(7, 41), 5);
        C.refused("11: parts already", PartsTest::lostPaper, y -> y.split(2, 1), 8);
        C.refused("11: parts already, out of range", PartsTest::lostPaper, y -> y.split(2, 101), 5);
    }

    private static void hand() {
        RankBook x = scene();
        C.done("12: hand(1, 30, 7)", x, y -> y.hand(1, 30, 7), 8);
        C.due("12: the last part", x.sum(8), 30);
        C.due("12: the rest", x.sum(7), 70);
        C.due("12: its owner", x.kind(8, 4), 7);
        C.due("12: the rest's owner", x.kind(7, 4), 0);
        C.done("12: again", x, y -> y.hand(8, 10, 1000), 10);
        C.due("12: the rest is its owner's", x.kind(9, 4), 7);
        C.due("12: the new one", x.kind(10, 4), 1000);
        C.done("12: all of it", x, y -> y.hand(10, 10, 1), 12);
        C.due("12: nothing is the rest", x.sum(11), 0);
        C.done("12: nothing of it", x, y -> y.hand(12, 0, 2), 14);
        C.due("12: all is the rest", x.sum(13), 10);
        C.done("12: a claim", x, y -> y.hand(5, 1, 2), 16);
        C.done("12: a charge needs no paper", lostPaper(), y -> y.hand(1, 1, 2), 10);
    }

    private static void handRefused() {
        C.refused("12: hand(0, 1, 1)", PartsTest::scene, y -> y.hand(0, 1, 1), 1);
        C.refused("12: hand(7, -1, 0)", PartsTest::scene, y -> y.hand(7, -1, 0), 1);
        C.refused("12: a rent", PartsTest::scene, y -> y.hand(4, -1, 0), 4);
        C.refused("12: a caution", PartsTest::scene, y -> y.hand(6, 1, 1), 4);
        C.refused("12: owner 0", PartsTest::scene, y -> y.hand(1, 1, 0), 5);
        C.refused("12: owner 1001", PartsTest::scene, y -> y.hand(1, 1, 1001), 5);
        C.refused("12: sum -1", PartsTest::scene, y -> y.hand(1, -1, 1), 5);
        C.refused("12: sum 101", PartsTest::scene, y -> y.hand(1, 101, 1), 5);
        C.refused("12: struck, no paper", PartsTest::struckParts, y -> y.hand(7, 1, 1), 6);
        C.refused("12: struck, out of range", PartsTest::struckParts, y -> y.hand(7, 41, 1), 5);
        C.refused("12: no paper", PartsTest::lostPaper, y -> y.hand(8, 1, 1), 7);
        C.refused("12: no paper, owner 0", PartsTest::lostPaper, y -> y.hand(8, 1, 0), 5);
        C.refused("12: no paper, parts already", PartsTest::lostPaper, y -> y.hand(2, 1, 1), 7);
        C.refused("12: parts already", () -> {
            RankBook x = scene();
            x.split(1, 1);
            return x;
        }, y -> y.hand(1, 1, 1), 8);
        C.refused("12: a top without paper", () -> {
            RankBook x = scene();
            x.paper(3, false);
            return x;
        }, y -> y.hand(3, 1, 1), 7);
    }

    private static RankBook almostFull() {
        RankBook x = scene();
        for (int i = 7; i <= 299; i++) {
            x.enter(0, 1, 10, 0, 1);
        }
        return x;
    }

    private static void room() {
        RankBook x = almostFull();
        C.due("11: room for one alone", x.split(1, 1), -1);
        C.due("11: room for one alone: status()", x.status(), 10);
        C.due("12: room for one alone", x.hand(1, 1, 1), -1);
        C.due("12: room for one alone: status()", x.status(), 10);
        C.due("11: it was not split", x.kind(1, 8), 0);
        C.due("11: count(2)", x.count(2), 299);
        RankBook y = scene();
        for (int i = 7; i <= 298; i++) {
            y.enter(0, 1, 10, 0, 1);
        }
        C.due("11: the last two", y.split(1, 1), 299);
        C.due("11: 300", y.count(2), 300);
        C.due("11: parts already, and full", y.split(1, 1), -1);
        C.due("11: 8 comes ahead of 10", y.status(), 8);
        C.due("12: full", y.hand(299, 1, 1), -1);
        C.due("12: full: status()", y.status(), 10);
    }

    /** As deep as the limit of entries lets parts go: every second part is split again. */
    private static void deep() {
        RankBook x = new RankBook();
        x.folio(1);
        x.enter(0, 1, 1000, 100, 1);
        int at = 1;
        for (int i = 0; i < 149; i++) {
            at = x.split(at, 1) + 1;
        }
        C.due("11: deep: the last one", at, 299);
        C.due("11: deep: its sum", x.sum(at), 1000 - 149);
        C.due("11: deep: sum(1)", x.sum(1), 1000);
        x.day(365);
        C.due("11: deep: due(1)", x.due(1), 1100);
        C.due("11: deep: sale", x.sale(0, 0, 200, 0), 0);
        C.due("11: deep: the first leaf's share", x.share(2), 1);
        C.due("11: deep: the last one's share", x.share(at), 200 - 163);
        C.due("11: deep: share(1)", x.share(1), 200);
        C.did("11: deep: release of a part", x, y -> y.release(3, 0));
        C.due("11: deep: the last one lies no more", x.parcels(at), 0);
        C.due("11: deep: the whole does", x.parcels(1), 1);
    }
}
