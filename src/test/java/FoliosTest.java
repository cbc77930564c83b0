/** Promises 1 to 5: a new object, folios, torn parcels, days. */
final class FoliosTest {
    private static final Checks C = new Checks("FoliosTest");

    public static void main(String[] args) {
        newObject();
        folio();
        tear();
        day();
        since();
        C.finish();
    }

    private static RankBook scene() {
        RankBook x = new RankBook();
        x.folio(3);
        x.folio(1);
        x.day(10);
        x.enter(0, 1, 100, 50, 7);
        x.enter(0, 1, 200, 0, 3);
        x.tear(0, 2);
        x.since(4);
        return x;
    }

    private static void newObject() {
        RankBook x = new RankBook();
        C.due("1: count(1)", x.count(1), 0);
        C.due("1: count(2)", x.count(2), 0);
        C.due("1: count(3)", x.count(3), 0);
        C.due("1: count(0)", x.count(0), 0);
        C.due("1: count(5)", x.count(5), 0);
        C.due("1: count(6)", x.count(6), 0);
        C.due("1: status()", x.status(), 0);
        C.due("1: many(0, 0)", x.many(0, 0), -1);
        C.due("1: status() of many", x.status(), 1);
        C.due("1: as(0, 0, 0, 0)", x.as(0, 0, 0, 0), -1);
        C.due("1: status() of as", x.status(), 1);
        C.due("1: kind(1, 0)", x.kind(1, 0), -1);
        RankBook other = new RankBook();
        other.folio(1);
        C.due("1: objects are their own", x.count(1), 0);
    }

    private static void folio() {
        RankBook x = new RankBook();
        C.done("2: folio(1)", x, y -> y.folio(1), 0);
        C.done("2: folio(60)", x, y -> y.folio(60), 1);
        C.due("2: the last parcel", x.many(1, 59), 0);
        C.due("2: behind it", x.many(1, 60), -1);
        C.due("2: behind it: status()", x.status(), 2);
        C.refused("2: folio(0)", FoliosTest::scene, y -> y.folio(0), 5);
        C.refused("2: folio(-1)", FoliosTest::scene, y -> y.folio(-1), 5);
        C.refused("2: folio(61)", FoliosTest::scene, y -> y.folio(61), 5);
        C.refused("2: folio(most)", FoliosTest::scene, y -> y.folio(Integer.MAX_VALUE), 5);
        for (int i = 2; i < 40; i++) {
            C.due("2: folio(2)", x.folio(2), i);
        }
        C.due("2: the 41st", x.folio(2), -1);
        C.due("2: the 41st: status()", x.status(), 10);
        C.due("2: 5 comes ahead of 10", x.folio(61), -1);
        C.due("2: 5 comes ahead of 10: status()", x.status(), 5);
        C.due("2: count(1)", x.count(1), 40);
        C.due("2: the last one is there", x.many(39, 1), 0);
        C.due("2: there is none behind it", x.many(40, 0), -1);
        C.due("2: there is none behind it: status()", x.status(), 1);
    }

    private static void tear() {
        RankBook x = scene();
        C.did("3: tear(0, 1)", x, y -> y.tear(0, 1));
        C.due("3: on others they go on", x.parcels(1), 1);
        C.due("3: many(0, 0)", x.many(0, 0), 2);
        C.due("3: many(0, 1)", x.many(0, 1), -1);
        C.due("3: many(0, 1): status()", x.status(), 3);
        C.did("3: tear(0, 0)", x, y -> y.tear(0, 0));
        C.due("3: an entry on torn parcels lives", x.kind(1, 5), 1);
        C.due("3: and lies nowhere", x.parcels(1), 0);
        C.due("3: and is due", x.due(2), 200);
        RankBook y = scene();
        C.due("3: a torn parcel is torn at any day", y.as(2, 10, 10, 0), -1);
        C.due("3: a torn parcel is torn at any day: status()", y.status(), 3);
        C.due("3: another folio's parcel is not", y.many(1, 0), 0);
        C.denied("3: tear(2, 0)", FoliosTest::scene, z -> z.tear(2, 0), 1);
        C.denied("3: tear(-1, 0)", FoliosTest::scene, z -> z.tear(-1, 0), 1);
        C.denied("3: tear(2, 9)", FoliosTest::scene, z -> z.tear(2, 9), 1);
        C.denied("3: tear(0, 3)", FoliosTest::scene, z -> z.tear(0, 3), 2);
        C.denied("3: tear(0, -1)", FoliosTest::scene, z -> z.tear(0, -1), 2);
        C.denied("3: tear(0, 66)", FoliosTest::scene, z -> z.tear(0, 66), 2);
        C.denied("3: tear(0, 2)", FoliosTest::scene, z -> z.tear(0, 2), 3);
    }

    private static void day() {
        RankBook x = scene();
        C.did("4: day(10), the same", x, y -> y.day(10));
        C.due("4: what since() told goes, of the same day too", x.count(4), 10);
        C.did("4: day(36500)", x, y -> y.day(36500));
        C.due("4: count(0)", x.count(0), 36500);
        C.due("4: count(4) is today, none told", x.count(4), 36500);
        C.denied("4: day(36501)", FoliosTest::scene, y -> y.day(36501), 5);
        C.denied("4: day(9)", FoliosTest::scene, y -> y.day(9), 8);
        C.denied("4: day(-1)", FoliosTest::scene, y -> y.day(-1), 8);
        C.denied("4: day(least)", FoliosTest::scene, y -> y.day(Integer.MIN_VALUE), 8);
        C.denied("4: day(most)", FoliosTest::scene, y -> y.day(Integer.MAX_VALUE), 5);
        RankBook z = scene();
        z.day(12);
        int e = z.enter(0, 1, 5, 0, 1);
        C.due("4: an act behind day() is dated today", z.kind(e, 6), 12);
        C.due("4: and known today", z.kind(e, 7), 12);
    }

    private static void since() {
        RankBook x = scene();
        C.due("5: count(4)", x.count(4), 4);
        int first = x.enter(0, 1, 5, 0, 1);
        int second = x.enter(0, 1, 5, 0, 1);
        C.due("5: dated", x.kind(first, 6), 4);
        C.due("5: known", x.kind(first, 7), 10);
        C.due("5: the next act too", x.kind(second, 6), 4);
        C.due("5: dated earlier, they stand ahead", x.list(0, 0, 0), first);
        C.did("5: since(0)", x, y -> y.since(0));
        C.did("5: since(10)", x, y -> y.since(10));
        C.due("5: since(10) is told, too", x.count(4), 10);
        C.denied("5: since(-1)", FoliosTest::scene, y -> y.since(-1), 5);
        C.denied("5: since(11)", FoliosTest::scene, y -> y.since(11), 5);
        RankBook z = new RankBook();
        C.due("5: count(4), none told", z.count(4), 0);
        C.did("5: since(0) on day 0", z, y -> y.since(0));
        C.due("5: count(4) is 0", z.count(4), 0);
        z.day(7);
        z.since(8);
        C.due("5: count(4), none told that was done", z.count(4), 7);
        z.since(3);
        z.since(8);
        C.due("5: a refused one leaves what was told", z.count(4), 3);
        z.day(6);
        C.due("5: so does a refused day()", z.count(4), 3);
    }
}
