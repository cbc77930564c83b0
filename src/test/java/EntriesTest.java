/** Promises 6 to 10: entering, claims, what is owed and paid, papers. */
final class EntriesTest {
    private static final long MOST = 999_999_999_999L;
    private static final Checks C = new Checks("EntriesTest");

    public static void main(String[] args) {
        enter();
        enterRefused();
        claim();
        claimRefused();
        owe();
        pay();
        paper();
        C.finish();
    }

    /** One entry of each kind, numbered as its kind; 7 and 8 are parts of the order. */
    private static RankBook scene() {
        RankBook x = new RankBook();
        x.folio(3);
        x.day(10);
        x.enter(0, 1, 100, 50, 3);
        x.enter(0, 2, 100, 50, 3);
        x.enter(0, 3, 100, 50, 3);
        x.enter(0, 4, 100, 0, 3);
        x.enter(0, 5, 100, 50, 3);
        x.enter(0, 6, 100, 50, 3);
        x.split(2, 40);
        x.owe(3, 60);
        x.tear(0, 2);
        return x;
    }

    private static RankBook struckScene() {
        RankBook x = scene();
        for (int e = 1; e <= 6; e++) {
            x.strike(e);
        }
        return x;
    }

    private static void enter() {
        RankBook x = new RankBook();
        x.folio(60);
        x.day(7);
        for (int kind = 1; kind <= 6; kind++) {
            int k = kind;
            C.done("6: enter, kind " + kind, x, y -> y.enter(0, k, 500 + k, 200, 1L << 59 | 1), kind);
            C.due("6: kind(0)", x.kind(kind, 0), kind);
            C.due("6: kind(1)", x.kind(kind, 1), 0);
            C.due("6: kind(2)", x.kind(kind, 2), kind);
            C.due("6: kind(3)", x.kind(kind, 3), 0);
            C.due("6: kind(4)", x.kind(kind, 4), 0);
            C.due("6: kind(5)", x.kind(kind, 5), 1);
            C.due("6: sum()", x.sum(kind), kind == 3 ? 0 : 500 + kind);
            C.due("6: parcels()", x.parcels(kind), 1L << 59 | 1);
        }
        C.due("6: the least sum", x.enter(0, 1, 0, 0, 1), 7);
        C.due("6: the greatest sum", x.enter(0, 1, MOST, 200, 1), 8);
        C.due("6: the last day of a rent", x.enter(0, 4, 1, 36500, 1), 9);
        C.due("6: the days of a caution", x.enter(0, 6, 1, 36500, 1), 10);
        C.due("6: all parcels", x.enter(0, 1, 1, 1, (1L << 60) - 1), 11);
        C.due("6: many", x.many(0, 0), 9);
        for (int i = 12; i <= 300; i++) {
            x.enter(0, 1, 1, 0, 1);
        }
        C.due("6: count(2)", x.count(2), 300);
        C.due("6: the 301st", x.enter(0, 1, 1, 0, 1), -1);
        C.due("6: the 301st: status()", x.status(), 10);
        C.due("6: 5 comes ahead of 10", x.enter(0, 7, 1, 0, 1), -1);
        C.due("6: 5 comes ahead of 10: status()", x.status(), 5);
        C.due("6: count(2) is left", x.count(2), 300);
        C.due("6: the last one is there", x.kind(300, 0), 1);
        C.due("6: there is none behind it", x.kind(301, 0), -1);
        C.due("24: a sale with all of them", x.sale(0, 0, 0, 0), 0);
        C.due("28: a check with all of them", x.check(0), 0);
    }

    private static void refusedEntry(int folio, int kind, long sum, int rate, long parcels, int status) {
        C.refused("6: enter(" + folio + ", " + kind + ", " + sum + ", " + rate + ", " + parcels + ")",
                EntriesTest::scene, y -> y.enter(folio, kind, sum, rate, parcels), status);
    }

    private static void enterRefused() {
        refusedEntry(1, 1, 5, 0, 1, 1);
        refusedEntry(-1, 1, 5, 0, 1, 1);
        refusedEntry(1, 9, -1, -1, 0, 1);
        refusedEntry(0, 1, 5, 0, 0, 2);
        refusedEntry(0, 1, 5, 0, 8, 2);
        refusedEntry(0, 1, 5, 0, 9, 2);
        refusedEntry(0, 1, 5, 0, -1, 2);
        refusedEntry(0, 1, 5, 0, Long.MIN_VALUE, 2);
        refusedEntry(0, 9, -1, -1, 12, 2);
        refusedEntry(0, 1, 5, 0, 4, 3);
        refusedEntry(0, 1, 5, 0, 7, 3);
        refusedEntry(0, 0, -1, -1, 7, 3);
        refusedEntry(0, 0, 5, 0, 1, 5);
        refusedEntry(0, 7, 5, 0, 1, 5);
        refusedEntry(0, -1, 5, 0, 1, 5);
        refusedEntry(0, 1, -1, 0, 1, 5);
        refusedEntry(0, 1, MOST + 1, 0, 1, 5);
        refusedEntry(0, 1, 5, -1, 1, 5);
        refusedEntry(0, 4, 5, -1, 1, 5);
        for (int kind = 1; kind <= 6; kind++) {
            refusedEntry(0, kind, 5, kind == 4 || kind == 6 ? 36501 : 201, 1, 5);
        }
    }

    private static void claim() {
        RankBook x = scene();
        C.due("7: as it is entered it stands by its date", x.rank(5, 0), 4);
        C.did("7: claim(5, 20, 1)", x, y -> y.claim(5, 20, 1));
        C.due("7: not yet", x.rank(5, 0), 4);
        x.day(19);
        C.due("7: not the day before", x.rank(5, 0), 4);
        x.day(20);
        C.due("7: from that day on", x.rank(5, 0), 0);
        x.day(10 + 365);
        C.due("7: interest of a year", x.due(5), 105);
        x.day(10 + 3 * 365);
        C.due("7: and no more", x.due(5), 105);
        RankBook y = scene();
        y.claim(5, 36500, 30);
        y.day(10 + 29 * 365);
        C.due("7: of 29 years", y.due(5), 100 + 29 * 5);
        y.day(36500);
        C.due("7: of 30 at most", y.due(5), 100 + 30 * 5);
        C.due("7: from the last day", y.rank(5, 0), 0);
        RankBook z = scene();
        z.day(10 + 365 * 9);
        C.due("7: untold, of 2 years", z.due(5), 110);
        z.day(36500);
        C.due("7: untold, never ahead", z.rank(5, 0), 4);
        RankBook w = scene();
        C.did("7: from 0", w, v -> v.claim(5, 0, 1));
        C.due("7: from 0 it is ahead", w.rank(5, 0), 0);
        RankBook s = struckScene();
        C.did("7: it need not live", s, v -> v.claim(5, 0, 1));
        claimIsAnAct();
    }

    private static void claimIsAnAct() {
        RankBook x = scene();
        x.day(30);
        x.since(20);
        x.claim(5, 0, 1);
        C.due("7: not known on day 29", x.as(0, 29, 29, 0), 1);
        C.due("7: known on day 30", x.as(0, 29, 30, 0), 5);
        C.due("7: dated on day 20", x.as(0, 20, 30, 0), 5);
        C.due("7: not dated on day 19", x.as(0, 19, 30, 0), 1);
    }

    private static void claimRefused() {
        C.denied("7: claim(0, 0, 1)", EntriesTest::scene, y -> y.claim(0, 0, 1), 1);
        C.denied("7: claim(9, -1, 0)", EntriesTest::scene, y -> y.claim(9, -1, 0), 1);
        for (int e : new int[] {1, 2, 3, 4, 6, 7}) {
            C.denied("7: claim(" + e + ", -1, 0)", EntriesTest::scene, y -> y.claim(e, -1, 0), 4);
        }
        C.denied("7: a claim's part", () -> {
            RankBook x = scene();
            x.split(5, 10);
            return x;
        }, y -> y.claim(9, 0, 1), 4);
        C.denied("7: from -1", EntriesTest::scene, y -> y.claim(5, -1, 1), 5);
        C.denied("7: from 36501", EntriesTest::scene, y -> y.claim(5, 36501, 1), 5);
        C.denied("7: no years", EntriesTest::scene, y -> y.claim(5, 0, 0), 5);
        C.denied("7: 31 years", EntriesTest::scene, y -> y.claim(5, 0, 31), 5);
        RankBook told = scene();
        told.claim(5, 0, 1);
        C.due("7: told already", told.claim(5, 0, 1), false);
        C.due("7: told already: status()", told.status(), 8);
        C.due("7: 5 comes ahead of 8", told.claim(5, 0, 31), false);
        C.due("7: 5 comes ahead of 8: status()", told.status(), 5);
        C.did("7: with parts", parted(), y -> y.claim(5, 0, 1));
    }

    private static RankBook parted() {
        RankBook x = scene();
        x.split(5, 10);
        return x;
    }

    private static RankBook topParts() {
        RankBook x = scene();
        x.split(3, 20); // 9 has 20, 10 has 40
        return x;
    }

    private static void owe() {
        RankBook x = scene();
        C.did("8: owe(3, 100)", x, y -> y.owe(3, 100));
        C.due("8: sum(3)", x.sum(3), 100);
        C.did("8: owe(3, 0)", x, y -> y.owe(3, 0));
        C.due("8: sum(3) is 0", x.sum(3), 0);
        RankBook t = topParts();
        C.did("8: a part's", t, y -> y.owe(9, 60));
        C.due("8: all together", t.sum(3), 100);
        C.due("8: more than the top together", t.owe(10, 41), false);
        C.due("8: more than the top together: status()", t.status(), 8);
        C.did("8: just the top", t, y -> y.owe(10, 40));
        C.denied("8: owe(0, 1)", EntriesTest::scene, y -> y.owe(0, 1), 1);
        C.denied("8: owe(99, -1)", EntriesTest::scene, y -> y.owe(99, -1), 1);
        for (int e : new int[] {1, 2, 4, 5, 6, 7}) {
            C.denied("8: owe(" + e + ", -1)", EntriesTest::scene, y -> y.owe(e, -1), 4);
        }
        C.denied("8: owe(3, -1)", EntriesTest::scene, y -> y.owe(3, -1), 5);
        C.denied("8: owe(3, 101)", EntriesTest::scene, y -> y.owe(3, 101), 5);
        C.denied("8: struck", EntriesTest::struckScene, y -> y.owe(3, 5), 6);
        C.denied("8: struck, out of range", EntriesTest::struckScene, y -> y.owe(3, 101), 5);
        C.denied("8: it has parts", EntriesTest::topParts, y -> y.owe(3, 5), 8);
        C.denied("8: it has parts, out of range", EntriesTest::topParts, y -> y.owe(3, 101), 5);
        C.denied("8: a part, too much", EntriesTest::topParts, y -> y.owe(9, 61), 8);
        C.denied("8: a part, struck", () -> {
            RankBook s = topParts();
            s.strike(3);
            return s;
        }, y -> y.owe(9, 61), 6);
    }

    private static void pay() {
        RankBook x = scene();
        C.done("9: pay(1, 30)", x, y -> y.pay(1, 30), 70);
        C.done("9: pay(1, 70)", x, y -> y.pay(1, 70), 0);
        C.done("9: pay(1, 0)", x, y -> y.pay(1, 0), 0);
        C.done("9: a part's", x, y -> y.pay(7, 15), 25);
        C.due("9: its whole", x.sum(2), 85);
        C.done("9: a top's", x, y -> y.pay(3, 60), 0);
        C.done("9: a claim's", x, y -> y.pay(5, 1), 99);
        C.refused("9: pay(0, 1)", EntriesTest::scene, y -> y.pay(0, 1), 1);
        C.refused("9: pay(9, -1)", EntriesTest::scene, y -> y.pay(9, -1), 1);
        C.refused("9: a rent", EntriesTest::scene, y -> y.pay(4, -1), 4);
        C.refused("9: a caution", EntriesTest::struckScene, y -> y.pay(6, 1), 4);
        C.refused("9: pay(1, -1)", EntriesTest::scene, y -> y.pay(1, -1), 5);
        C.refused("9: pay(1, 101)", EntriesTest::scene, y -> y.pay(1, 101), 5);
        C.refused("9: pay(1, most)", EntriesTest::scene, y -> y.pay(1, Long.MAX_VALUE), 5);
        C.refused("9: above what sum() tells", EntriesTest::scene, y -> y.pay(3, 61), 5);
        C.refused("9: struck", EntriesTest::struckScene, y -> y.pay(1, 1), 6);
        C.refused("9: struck, out of range", EntriesTest::struckScene, y -> y.pay(1, 101), 5);
        C.refused("9: it has parts", EntriesTest::scene, y -> y.pay(2, 100), 8);
        C.refused("9: it has parts, out of range", EntriesTest::scene, y -> y.pay(2, 101), 5);
        C.refused("9: it has parts, struck", EntriesTest::struckScene, y -> y.pay(2, 100), 6);
    }

    private static void paper() {
        RankBook x = scene();
        C.due("10: there at first", x.hand(7, 10, 5) > 0, true);
        C.did("10: paper(8, false)", x, y -> y.paper(8, false));
        C.due("10: of the whole", x.hand(9, 1, 5), -1);
        C.due("10: of the whole: status()", x.status(), 7);
        C.did("10: paper(2, true)", x, y -> y.paper(2, true));
        C.due("10: there again", x.hand(9, 1, 5) > 0, true);
        C.did("10: a top's", x, y -> y.paper(3, false));
        C.due("10: of the top", x.hand(3, 1, 5), -1);
        C.due("10: of the top: status()", x.status(), 7);
        C.did("10: it need not live", struckScene(), y -> y.paper(3, false));
        C.denied("10: paper(0, true)", EntriesTest::scene, y -> y.paper(0, true), 1);
        C.denied("10: paper(9, true)", EntriesTest::scene, y -> y.paper(9, true), 1);
        for (int e : new int[] {1, 4, 5, 6}) {
            C.denied("10: paper(" + e + ", false)", EntriesTest::scene, y -> y.paper(e, false), 4);
        }
    }
}
