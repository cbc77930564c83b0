/** Promises 30 to 35: what is told of entries, STATUS and counts. */
final class TellingTest {
    private static final long MOST = 999_999_999_999L;
    private static final Checks C = new Checks("TellingTest");

    public static void main(String[] args) {
        dueWithInterest();
        dueOfTops();
        dueOfRents();
        dueOfLeaves();
        kind();
        sum();
        parcels();
        status();
        count();
        C.finish();
    }

    private static void dueWithInterest() {
        for (int kind : new int[] {1, 2, 5}) {
            RankBook x = new RankBook();
            x.folio(1);
            x.enter(0, kind, 999, 73, 1);
            C.due("30: on its day", x.due(1), 999);
            x.day(5);
            C.due("30: cut", x.due(1), 999); // 0.999
            x.day(6);
            C.due("30: 6 days", x.due(1), 1000); // 1.19
            x.day(365);
            C.due("30: a year", x.due(1), 999 + 72); // 72.9
            x.day(729);
            C.due("30: 729 days", x.due(1), 999 + 145); // 145.65
            x.day(730);
            C.due("30: 730 days", x.due(1), 999 + 145); // 145.85
            x.day(36500);
            C.due("30: 730 at most", x.due(1), 999 + 145);
        }
        RankBook x = new RankBook();
        x.folio(1);
        x.day(365);
        x.since(0);
        x.enter(0, 1, MOST, 200, 1);
        C.due("30: since it is dated", x.due(1), MOST + 199_999_999_999L);
        x.enter(0, 6, MOST, 200, 1);
        C.due("30: a caution", x.due(2), 0);
        x.strike(1);
        C.due("30: struck", x.due(1), MOST + 199_999_999_999L);
        x.enter(0, 5, MOST, 200, 1);
        x.claim(3, 0, 30);
        x.day(36500);
        C.due("30: the greatest interest", x.due(3), MOST + 6 * MOST);
        RankBook late = new RankBook();
        late.folio(1);
        late.day(1000);
        late.enter(0, 1, 1000, 100, 1);
        C.due("30: none on the day of its entering", late.due(1), 1000);
        late.day(1365);
        C.due("30: a year from its entering", late.due(1), 1100);
        C.tellsAlone("30: due(0)", x, y -> y.due(0), -1);
        C.tellsAlone("30: due(4)", x, y -> y.due(4), -1);
        C.tellsAlone("30: due(2)", x, y -> y.due(2), 0);
    }

    private static void dueOfTops() {
        RankBook x = new RankBook();
        x.folio(1);
        x.enter(0, 3, 100, 100, 1);
        C.due("30: a top owes nothing at first", x.due(1), 0);
        x.owe(1, 80);
        x.day(365);
        C.due("30: a top's interest", x.due(1), 88);
        x.owe(1, 95);
        C.due("30: at most its top", x.due(1), 100);
        x.split(1, 50);
        C.due("30: its first leaf", x.due(2), 55);
        C.due("30: its second leaf", x.due(3), 45);
        x.owe(3, 0);
        x.day(730);
        C.due("30: two years", x.due(1), 60);
        x.day(2000);
        C.due("30: 730 days at most", x.due(1), 60);
    }

    private static RankBook rent(int lastDay) {
        RankBook x = new RankBook();
        x.folio(1);
        x.enter(0, 4, 10, lastDay, 1);
        return x;
    }

    private static void dueOfRents() {
        RankBook x = rent(0);
        C.due("30: without a last day", x.due(1), 200);
        x.day(36500);
        C.due("30: at any day", x.due(1), 200);
        C.due("30: 20 years left", rent(20 * 365).due(1), 200);
        C.due("30: 21 years left", rent(21 * 365).due(1), 200);
        C.due("30: not quite 20", rent(20 * 365 - 1).due(1), 190);
        C.due("30: a last day of 1", rent(1).due(1), 0);
        RankBook y = rent(1000);
        C.due("30: whole years", y.due(1), 20);
        y.day(270);
        C.due("30: just two", y.due(1), 20);
        y.day(271);
        C.due("30: one", y.due(1), 10);
        y.day(1000);
        C.due("30: the last day", y.due(1), 0);
        y.day(5000);
        C.due("30: behind it", y.due(1), 0);
    }

    private static void dueOfLeaves() {
        RankBook x = new RankBook();
        x.folio(1);
        x.enter(0, 1, 100, 100, 1);
        x.split(1, 45); // 2, 3
        x.split(2, 15); // 4, 5
        x.day(365);
        C.due("30: the first leaf", x.due(4), 16); // 16.5
        C.due("30: the second", x.due(5), 33); // 49.5
        C.due("30: the third", x.due(3), 61);
        C.due("30: together", x.due(2), 49);
        C.due("30: the whole", x.due(1), 110);
        x.pay(5, 30);
        C.due("30: one that is paid", x.due(5), 0);
        C.due("30: the one behind it", x.due(3), 61); // 77 - 16
    }

    /** Day 9: caution 1; day 12, dated 10: charge 2, kept, with parts 3 and 4; in folio 1. */
    private static RankBook scene() {
        RankBook x = new RankBook();
        x.folio(1);
        x.folio(2);
        x.day(9);
        x.enter(1, 6, 50, 5, 3);
        x.day(12);
        x.since(10);
        x.enter(1, 1, 100, 0, 3);
        x.keep(1, 2);
        x.day(13);
        x.hand(2, 30, 77);
        return x;
    }

    private static void kinds(int entry, int... want) {
        RankBook x = scene();
        for (int what = 0; what < want.length; what++) {
            int w = what;
            C.tellsAlone("31: kind(" + entry + ", " + what + ")", x, y -> y.kind(entry, w), want[what]);
        }
    }

    private static void kind() {
        kinds(1, 6, 1, 1, 0, 0, 1, 9, 9, 0, 2, -1);
        kinds(2, 1, 1, 2, 0, 0, 1, 10, 12, 2, 1, -1);
        kinds(3, 1, 1, 2, 2, 0, 1, 10, 12, 0, 0, -1);
        kinds(4, 1, 1, 2, 2, 77, 1, 10, 12, 0, 0, -1);
        kinds(0, -1, -1, -1, -1, -1, -1, -1, -1, -1, -1, -1);
        kinds(5, -1, -1, -1, -1, -1, -1, -1, -1, -1, -1, -1);
        RankBook x = scene();
        C.due("31: kind(1, -1)", x.kind(1, -1), -1);
        C.due("31: kind(1, most)", x.kind(1, Integer.MAX_VALUE), -1);
        x.strike(2);
        C.due("31: struck", x.kind(2, 5), 0);
        C.due("31: struck, its part", x.kind(4, 5), 0);
        C.due("31: struck, it is kept still", x.kind(1, 9), 2);
        x.day(20);
        x.since(15);
        x.enter(0, 1, 5, 0, 1);
        x.strike(5);
        C.due("31: struck since", x.kind(5, 5), 0);
    }

    private static void sum() {
        RankBook x = scene();
        C.tellsAlone("32: a whole", x, y -> y.sum(2), 100);
        C.tellsAlone("32: a part", x, y -> y.sum(3), 70);
        C.tellsAlone("32: a caution", x, y -> y.sum(1), 50);
        C.tellsAlone("32: sum(0)", x, y -> y.sum(0), -1);
        C.tellsAlone("32: sum(5)", x, y -> y.sum(5), -1);
        x.pay(3, 20);
        x.split(4, 10);
        C.due("32: its leaves'", x.sum(2), 80);
        C.due("32: a part with parts", x.sum(4), 30);
        x.strike(2);
        C.due("32: struck", x.sum(2), 80);
    }

    private static void parcels() {
        RankBook x = scene();
        C.tellsAlone("33: a whole", x, y -> y.parcels(2), 3);
        C.tellsAlone("33: a caution", x, y -> y.parcels(1), 3);
        C.tellsAlone("33: parcels(0)", x, y -> y.parcels(0), 0);
        C.tellsAlone("33: parcels(5)", x, y -> y.parcels(5), 0);
        x.release(3, 0);
        C.due("33: a part that is released", x.parcels(3), 2);
        C.due("33: the whole", x.parcels(2), 3);
        x.tear(1, 1);
        C.due("33: torn", x.parcels(2), 1);
        C.due("33: torn, the part", x.parcels(3), 0);
        x.strike(2);
        C.due("33: struck", x.parcels(2), 0);
        RankBook y = new RankBook();
        y.folio(60);
        y.enter(0, 1, 1, 0, (1L << 60) - 1);
        C.due("33: sixty of them", y.parcels(1), (1L << 60) - 1);
        y.sell(0, 59, 0, 0);
        C.due("33: one is sold", y.parcels(1), (1L << 59) - 1);
    }

    private static void status() {
        RankBook x = scene();
        C.due("34: 0", x.status(), 0);
        x.tear(5, 0);
        C.due("34: 1", x.status(), 1);
        C.due("34: it stays", x.status(), 1);
        x.tear(1, 5);
        C.due("34: 2", x.status(), 2);
        x.many(1, 0);
        C.due("34: 0 again", x.status(), 0);
    }

    private static void count() {
        RankBook x = scene();
        x.since(11);
        x.enter(1, 1, 5, 0, 1);
        x.post(2, 5, 1);
        x.post(5, 2, 1);
        x.sell(1, 1, 10, 0);
        int[] want = {13, 2, 5, 1, 11, 1, 1, -1};
        for (int what = 0; what < want.length; what++) {
            int w = what;
            C.tellsAlone("35: count(" + what + ")", x, y -> y.count(w), want[what]);
        }
        C.due("35: count(-1)", x.count(-1), -1);
        C.due("35: count(least)", x.count(Integer.MIN_VALUE), -1);
        x.day(14);
        C.due("35: since() goes, and it is today", x.count(4), 14);
        C.tellsAlone("35: count(4), none told", new RankBook(), y -> y.count(4), 0);
    }
}
