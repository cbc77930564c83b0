/** Promises 15 to 17: releases, strikes, cautions. */
final class HoldTest {
    private static final Checks C = new Checks("HoldTest");

    public static void main(String[] args) {
        release();
        releaseOfParts();
        releaseRefused();
        strike();
        keep();
        keepRefused();
        keepAsAnAct();
        C.finish();
    }

    /** Charge 1 with parts 2 and 3, charge 4, a torn parcel 2. */
    private static RankBook scene() {
        RankBook x = new RankBook();
        x.folio(3);
        x.day(10);
        x.enter(0, 1, 100, 0, 7);
        x.split(1, 40);
        x.enter(0, 1, 100, 0, 1);
        x.tear(0, 2);
        return x;
    }

    private static void release() {
        RankBook x = scene();
        C.did("15: release(1, 0)", x, y -> y.release(1, 0));
        C.due("15: parcels(1)", x.parcels(1), 2);
        C.due("15: its parts", x.parcels(3), 2);
        C.due("15: the order", x.list(0, 0, 0), 4);
        C.due("15: many(0, 1)", x.many(0, 1), 1);
        C.due("15: many(0, 0)", x.many(0, 0), 1);
        C.due("15: it lives", x.kind(1, 5), 1);
        C.due("15: twice", x.release(1, 0), false);
        C.due("15: twice: status()", x.status(), 6);
        C.due("15: a part of it", x.release(2, 0), false);
        C.due("15: a part of it: status()", x.status(), 6);
        x.split(2, 10);
        C.due("15: those that come later", x.parcels(5), 2);
        RankBook c = scene();
        c.enter(0, 6, 10, 10, 1);
        C.did("15: a caution", c, y -> y.release(5, 0));
        C.due("15: a caution lies no more", c.parcels(5), 0);
        RankBook z = scene();
        z.day(20);
        z.since(15);
        z.release(4, 0);
        C.due("15: dated", z.as(0, 15, 20, 1), -1);
        C.due("15: not dated yet", z.as(0, 14, 20, 1), 4);
        C.due("15: not known yet", z.as(0, 15, 19, 1), 4);
    }

    private static void releaseOfParts() {
        RankBook x = scene();
        C.did("15: release(2, 0)", x, y -> y.release(2, 0));
        C.due("15: the part", x.parcels(2), 2);
        C.due("15: the other", x.parcels(3), 3);
        C.due("15: the whole lies by the other", x.parcels(1), 3);
        C.due("15: rank of the whole", x.rank(1, 0), 0);
        C.due("15: rank of the part", x.rank(2, 0), -1);
        C.due("15: rank of the part: status()", x.status(), 6);
        C.did("15: release of both", x, y -> y.release(3, 0));
        C.due("15: the whole lies no more", x.parcels(1), 2);
        RankBook y = scene();
        y.release(2, 0);
        C.did("15: the whole behind a part", y, z -> z.release(1, 0));
        C.due("15: all of it", y.parcels(3), 2);
    }

    private static void releaseRefused() {
        C.denied("15: release(0, 0)", HoldTest::scene, y -> y.release(0, 0), 1);
        C.denied("15: release(5, 9)", HoldTest::scene, y -> y.release(5, 9), 1);
        C.denied("15: release(4, 3)", HoldTest::scene, y -> y.release(4, 3), 2);
        C.denied("15: release(4, -1)", HoldTest::scene, y -> y.release(4, -1), 2);
        C.denied("15: release(4, 64)", HoldTest::scene, y -> y.release(4, 64), 2);
        C.denied("15: torn", HoldTest::scene, y -> y.release(1, 2), 3);
        C.denied("15: torn, and not on it", HoldTest::scene, y -> y.release(4, 2), 3);
        C.denied("15: not on it", HoldTest::scene, y -> y.release(4, 1), 6);
        C.denied("15: struck", () -> {
            RankBook x = scene();
            x.strike(4);
            return x;
        }, y -> y.release(4, 0), 6);
    }

    private static void strike() {
        RankBook x = scene();
        C.did("16: strike(1)", x, y -> y.strike(1));
        C.due("16: kind(1, 5)", x.kind(1, 5), 0);
        C.due("16: its part", x.kind(3, 5), 0);
        C.due("16: parcels(1)", x.parcels(1), 0);
        C.due("16: many", x.many(0, 0), 1);
        C.due("16: what it owes is told still", x.sum(1), 100);
        C.due("16: strike(1) again", x.strike(1), false);
        C.due("16: strike(1) again: status()", x.status(), 6);
        C.due("16: ahead of its date, struck", x.since(9) && x.strike(1), false);
        C.due("16: 6 comes ahead of 8", x.status(), 6);
        C.denied("16: strike(0)", HoldTest::scene, y -> y.strike(0), 1);
        C.denied("16: strike(5)", HoldTest::scene, y -> y.strike(5), 1);
        C.denied("16: a part", HoldTest::scene, y -> y.strike(3), 4);
        C.denied("16: ahead of its date", () -> {
            RankBook s = scene();
            s.since(9);
            return s;
        }, y -> y.strike(4), 8);
        RankBook same = scene();
        same.since(10);
        C.did("16: on its date", same, y -> y.strike(4));
        RankBook p = scene();
        p.strike(1);
        C.due("16: a part of the struck", p.strike(2), false);
        C.due("16: 4 comes ahead of 6", p.status(), 4);
        RankBook z = scene();
        z.day(20);
        z.since(15);
        z.strike(4);
        C.due("16: dated", z.as(0, 15, 20, 1), -1);
        C.due("16: not dated yet", z.as(0, 14, 20, 1), 4);
        C.due("16: not known yet", z.as(0, 15, 19, 1), 4);
    }

    /** Day 10: caution 1 of 50 for 5 days; day 12: charge 2; day 15: charge 3; 4 in folio 1. */
    private static RankBook cautions() {
        RankBook x = new RankBook();
        x.folio(2);
        x.folio(1);
        x.day(10);
        x.enter(0, 6, 50, 5, 1);
        x.day(12);
        x.enter(0, 1, 100, 0, 3);
        x.day(15);
        x.enter(0, 1, 100, 0, 3);
        x.enter(1, 1, 100, 0, 1);
        return x;
    }

    private static void keep() {
        RankBook x = cautions();
        C.due("17: without", x.kind(1, 9), 0);
        C.did("17: keep(1, 3), the last of its days", x, y -> y.keep(1, 3));
        C.due("17: kind(1, 9)", x.kind(1, 9), 3);
        C.due("17: kind(3, 9)", x.kind(3, 9), 1);
        C.due("17: where the caution stands", x.list(0, 0, 0), 3);
        C.due("17: where it does not lie", x.list(0, 1, 0), 2);
        C.due("17: a whole has one rank", x.many(0, 0), 2);
        x.release(1, 0);
        C.due("17: the caution lies no more", x.list(0, 0, 0), 2);
        C.due("17: it keeps still", x.kind(1, 9), 3);
        RankBook same = new RankBook();
        same.folio(1);
        same.enter(0, 1, 100, 0, 1);
        same.enter(0, 6, 50, 0, 1);
        C.did("17: of one day, for no days", same, y -> y.keep(2, 1));
        C.due("17: its own place is the first", same.rank(1, 0), 0);
        RankBook s = cautions();
        s.keep(1, 3);
        s.strike(1);
        C.due("17: struck", s.list(0, 0, 0), 2);
        RankBook p = cautions();
        p.split(3, 10);
        C.did("17: a whole with parts", p, y -> y.keep(1, 3));
        C.due("17: the parts' rank", p.rank(5, 0), 0);
        C.due("17: a part is not kept itself", p.kind(5, 9), 0);
    }

    private static RankBook withKept() {
        RankBook x = cautions();
        x.keep(1, 2);
        x.since(11);
        x.enter(0, 6, 10, 30, 1); // 5
        x.since(13);
        x.enter(0, 6, 10, 30, 1); // 6
        x.since(9);
        x.enter(0, 1, 10, 0, 1); // 7
        x.split(3, 10); // 8, 9
        x.day(16);
        return x;
    }

    private static void keepRefused() {
        C.denied("17: keep(0, 3)", HoldTest::withKept, y -> y.keep(0, 3), 1);
        C.denied("17: keep(3, 10)", HoldTest::withKept, y -> y.keep(3, 10), 1);
        C.denied("17: that is no caution", HoldTest::withKept, y -> y.keep(3, 2), 4);
        C.denied("17: this is one", HoldTest::withKept, y -> y.keep(5, 6), 4);
        C.denied("17: a caution itself", HoldTest::withKept, y -> y.keep(5, 5), 4);
        C.denied("17: a part", HoldTest::withKept, y -> y.keep(5, 8), 4);
        C.denied("17: another folio", HoldTest::withKept, y -> y.keep(5, 4), 6);
        C.denied("17: dated ahead", HoldTest::withKept, y -> y.keep(5, 7), 8);
        C.denied("17: keeps one already", HoldTest::withKept, y -> y.keep(1, 3), 8);
        C.denied("17: is kept", HoldTest::withKept, y -> y.keep(5, 2), 8);
        C.denied("17: more than its days behind", () -> {
            RankBook x = cautions();
            x.day(16);
            x.enter(0, 1, 5, 0, 1);
            return x;
        }, y -> y.keep(1, 5), 8);
        C.denied("17: a struck caution", () -> {
            RankBook x = withKept();
            x.strike(5);
            return x;
        }, y -> y.keep(5, 7), 6);
        C.denied("17: a struck whole", () -> {
            RankBook x = withKept();
            x.strike(3);
            return x;
        }, y -> y.keep(5, 3), 6);
        C.did("17: the first that is free", withKept(), y -> y.keep(6, 3));
    }

    private static void keepAsAnAct() {
        RankBook x = cautions();
        x.day(30);
        x.since(20);
        x.keep(1, 3);
        C.due("17: dated", x.as(0, 20, 30, 0), 3);
        C.due("17: not dated yet", x.as(0, 19, 30, 0), 2);
        C.due("17: not known yet", x.as(0, 20, 29, 0), 2);
        x.day(40);
        x.strike(1);
        C.due("17: struck since", x.as(0, 40, 40, 0), 2);
        C.due("17: as it was known", x.as(0, 39, 39, 0), 3);
    }
}
