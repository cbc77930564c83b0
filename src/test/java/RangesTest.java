import java.util.function.Supplier;

/**
 * Each number that a call takes, on either side of its range: the last one that is in it is
 * taken, with STATUS 0, and the first one that is out of it is refused, as are the least and the
 * greatest that there are. The text of each line begins with the number of the promise.
 */
final class RangesTest {
    private static final long MOST = 999_999_999_999L;
    private static final Checks C = new Checks("RangesTest");

    /** A call with the number in question; what answers false, answers NONE here. */
    private interface Call {
        long on(RankBook x, long n);
    }

    public static void main(String[] args) {
        folioNumbers();
        parcelNumbers();
        entryNumbers();
        pairsOfEntries();
        folioSizes();
        days();
        enterNumbers();
        enterParcels();
        claimNumbers();
        sumsOfLeaves();
        sumsOfTops();
        postNumbers();
        datesOfStrikes();
        daysOfCautions();
        places();
        daysOfOrders();
        saleNumbers();
        toldNumbers();
        numbersThatTell();
        C.finish();
    }

    private static long flag(boolean done) {
        return done ? 1 : RankBook.NONE;
    }

    private static void ins(String what, Supplier<RankBook> scene, Call call, long... numbers) {
        for (long n : numbers) {
            RankBook x = scene.get();
            x.folio(0);
            C.due(what + " " + n + " is taken", call.on(x, n) != RankBook.NONE, true);
            C.due(what + " " + n + " is taken: status()", x.status(), 0);
        }
    }

    private static void outs(String what, Supplier<RankBook> scene, Call call, int status, long... numbers) {
        for (long n : numbers) {
            C.refused(what + " " + n, scene, x -> call.on(x, n), status);
        }
    }

    private static void ints(String what, Supplier<RankBook> scene, Call call, int low, int high, int status) {
        ins(what, scene, call, low, high);
        outs(what, scene, call, status, low - 1L, high + 1L, Integer.MIN_VALUE, Integer.MAX_VALUE);
    }

    private static void longs(String what, Supplier<RankBook> scene, Call call, long low, long high, int status) {
        ins(what, scene, call, low, high);
        outs(what, scene, call, status, low - 1, high + 1, Long.MIN_VALUE, Long.MAX_VALUE);
    }

    /** Folios 0 to 2 with two parcels each, a charge on all of each; day 10. */
    private static RankBook land() {
        RankBook x = new RankBook();
        for (int f = 0; f < 3; f++) {
            x.folio(2);
        }
        x.day(10);
        for (int f = 0; f < 3; f++) {
            x.enter(f, 1, 100, 0, 3);
        }
        return x;
    }

    private static void folioNumbers() {
        ints("3: tear, folio", RangesTest::land, (x, n) -> flag(x.tear((int) n, 0)), 0, 2, 1);
        ints("6: enter, folio", RangesTest::land, (x, n) -> x.enter((int) n, 1, 5, 0, 1), 0, 2, 1);
        ints("18: many, folio", RangesTest::land, (x, n) -> x.many((int) n, 0), 0, 2, 1);
        ints("19: list, folio", RangesTest::land, (x, n) -> x.list((int) n, 0, 0), 0, 2, 1);
        ints("23: choose, folio", RangesTest::land, (x, n) -> flag(x.choose((int) n)), 0, 2, 1);
        ints("24: sale, folio", RangesTest::land, (x, n) -> x.sale((int) n, 0, 5, 0), 0, 2, 1);
        ints("25: sell, folio", RangesTest::land, (x, n) -> x.sell((int) n, 0, 5, 0), 0, 2, 1);
    }

    /** Of a folio of one parcel, of one of two, and of one of sixty; 1L << 64 is 1 again. */
    private static void parcelNumbers() {
        for (int size : new int[] {1, 2, 59, 60}) {
            parcelNumbers(size, size - 1);
        }
        Supplier<RankBook> torn = () -> {
            RankBook x = widest(60);
            x.tear(0, 0);
            return x;
        };
        outs("3: tear, parcel", torn, (x, n) -> flag(x.tear(0, (int) n)), 2, -64, 60, 63, 64, 128);
        outs("18: many, parcel", torn, (x, n) -> x.many(0, (int) n), 2, -64, 60, 63, 64, 128);
        outs("15: release, parcel", torn, (x, n) -> flag(x.release(1, (int) n)), 2, -64, 60, 63, 64, 128);
    }

    private static RankBook widest(int size) {
        RankBook x = new RankBook();
        x.folio(size);
        x.enter(0, 1, 100, 0, (1L << size) - 1);
        return x;
    }

    private static void parcelNumbers(int size, int last) {
        Supplier<RankBook> scene = () -> widest(size);
        ints("3: tear, parcel", scene, (x, n) -> flag(x.tear(0, (int) n)), 0, last, 2);
        ints("15: release, parcel", scene, (x, n) -> flag(x.release(1, (int) n)), 0, last, 2);
        ints("18: many, parcel", scene, (x, n) -> x.many(0, (int) n), 0, last, 2);
        ints("19: list, parcel", scene, (x, n) -> x.list(0, (int) n, 0), 0, last, 2);
        ints("20: rank, parcel", scene, (x, n) -> x.rank(1, (int) n), 0, last, 2);
        ints("21: why, parcel", scene, (x, n) -> x.why(1, (int) n), 0, last, 2);
        ints("22: as, parcel", scene, (x, n) -> x.as((int) n, 0, 0, 0), 0, last, 2);
        ints("24: sale, parcel", scene, (x, n) -> x.sale(0, (int) n, 5, 0), 0, last, 2);
        ints("25: sell, parcel", scene, (x, n) -> x.sell(0, (int) n, 5, 0), 0, last, 2);
    }

    /** Entries 1 and 4 of this kind; 2 is a charge, 3 a caution. */
    private static RankBook ends(int kind) {
        RankBook x = new RankBook();
        x.folio(1);
        x.enter(0, kind, 100, 0, 1);
        x.enter(0, 1, 100, 0, 1);
        x.enter(0, 6, 100, 0, 1);
        x.enter(0, kind, 100, 0, 1);
        return x;
    }

    private static void entryNumbers() {
        ints("7: claim, entry", () -> ends(5), (x, n) -> flag(x.claim((int) n, 0, 1)), 1, 4, 1);
        ints("8: owe, entry", () -> ends(3), (x, n) -> flag(x.owe((int) n, 5)), 1, 4, 1);
        ints("9: pay, entry", () -> ends(1), (x, n) -> x.pay((int) n, 5), 1, 4, 1);
        ints("10: paper, entry", () -> ends(2), (x, n) -> flag(x.paper((int) n, false)), 1, 4, 1);
        ints("11: split, entry", () -> ends(1), (x, n) -> x.split((int) n, 5), 1, 4, 1);
        ints("12: hand, entry", () -> ends(1), (x, n) -> x.hand((int) n, 5, 5), 1, 4, 1);
        ints("15: release, entry", () -> ends(1), (x, n) -> flag(x.release((int) n, 0)), 1, 4, 1);
        ints("16: strike, entry", () -> ends(1), (x, n) -> flag(x.strike((int) n)), 1, 4, 1);
        ints("20: rank, entry", () -> ends(1), (x, n) -> x.rank((int) n, 0), 1, 4, 1);
        ints("21: why, entry", () -> ends(1), (x, n) -> x.why((int) n, 0), 1, 4, 1);
        ints("27: tell, entry", () -> ends(1), (x, n) -> flag(x.tell((int) n, 5)), 1, 4, 1);
    }

    private static void pairsOfEntries() {
        ints("13: post, a", () -> ends(1), (x, n) -> x.post((int) n, 2, 5), 1, 4, 1);
        ints("13: post, b", () -> ends(1), (x, n) -> x.post(2, (int) n, 5), 1, 4, 1);
        ints("17: keep, caution", () -> ends(6), (x, n) -> flag(x.keep((int) n, 2)), 1, 4, 1);
        ints("17: keep, entry", () -> ends(1), (x, n) -> flag(x.keep(3, (int) n)), 1, 4, 1);
    }

    private static void folioSizes() {
        ints("2: folio, parcels", RangesTest::land, (x, n) -> x.folio((int) n), 1, 60, 5);
        ints("2: folio, parcels, the first one", RankBook::new, (x, n) -> x.folio((int) n), 1, 60, 5);
    }

    /** TODAY is 10, and since() told 4. */
    private static RankBook dated() {
        RankBook x = land();
        x.since(4);
        return x;
    }

    private static void days() {
        Call day = (x, n) -> flag(x.day((int) n));
        ins("4: day", RangesTest::dated, day, 10, 11, 36499, 36500);
        outs("4: day, above", RangesTest::dated, day, 5, 36501, Integer.MAX_VALUE);
        outs("4: day, below", RangesTest::dated, day, 8, 9, 0, -1, Integer.MIN_VALUE);
        Call since = (x, n) -> flag(x.since((int) n));
        ints("5: since", RangesTest::dated, since, 0, 10, 5);
        ins("5: since on day 0", RankBook::new, since, 0);
        outs("5: since on day 0", RankBook::new, since, 5, -1, 1);
        ins("4: day on day 0", RankBook::new, day, 0, 36500);
        outs("4: day on day 0, below", RankBook::new, day, 8, -1, Integer.MIN_VALUE);
        Supplier<RankBook> last = () -> {
            RankBook x = land();
            x.day(36500);
            return x;
        };
        ins("4: day on the last day", last, day, 36500);
        outs("4: day on the last day, above", last, day, 5, 36501);
        outs("4: day on the last day, below", last, day, 8, 36499);
        ints("5: since on the last day", last, since, 0, 36500, 5);
    }

    private static void enterNumbers() {
        ints("6: enter, kind", RangesTest::land, (x, n) -> x.enter(0, (int) n, 5, 0, 1), 1, 6, 5);
        for (int kind = 1; kind <= 6; kind++) {
            int k = kind;
            String of = "6: enter, kind " + kind;
            longs(of + ", sum", RangesTest::land, (x, n) -> x.enter(0, k, n, 0, 1), 0, MOST, 5);
            int most = kind == 4 || kind == 6 ? 36500 : 200;
            ints(of + ", rate", RangesTest::land, (x, n) -> x.enter(0, k, 5, (int) n, 1), 0, most, 5);
        }
    }

    private static void enterParcels() {
        for (int size : new int[] {1, 2, 59, 60}) {
            Supplier<RankBook> scene = () -> widest(size);
            Call enter = (x, n) -> x.enter(0, 1, 5, 0, n);
            long last = 1L << (size - 1);
            String of = "6: enter, of " + size + ", parcels";
            ins(of, scene, enter, 1, last, 2 * last - 1);
            outs(of, scene, enter, 2, 0, 2 * last, 2 * last | 1, 1L << 62, Long.MIN_VALUE, -1, Long.MAX_VALUE);
        }
        RankBook x = widest(60);
        x.enter(0, 1, 5, 0, 1L << 59);
        C.due("6: the last of sixty: parcels()", x.parcels(2), 1L << 59);
        C.due("6: the last of sixty: many()", x.many(0, 59), 2);
    }

    private static void claimNumbers() {
        ints("7: claim, from", () -> ends(5), (x, n) -> flag(x.claim(1, (int) n, 1)), 0, 36500, 5);
        ints("7: claim, years", () -> ends(5), (x, n) -> flag(x.claim(1, 0, (int) n)), 1, 30, 5);
        RankBook x = ends(5);
        x.claim(4, 7, 1);
        x.day(6);
        C.due("7: the day before it goes ahead", x.rank(4, 0), 2);
        x.day(7);
        C.due("7: from that day on", x.rank(4, 0), 0);
    }

    /** Charge 1 of 100 with parts 2 of 40, 3 of 60; order 4 of 0; charge 5 of the most. */
    private static RankBook leaves() {
        RankBook x = new RankBook();
        x.folio(1);
        x.enter(0, 1, 100, 0, 1);
        x.split(1, 40);
        x.enter(0, 2, 0, 0, 1);
        x.enter(0, 1, MOST, 0, 1);
        return x;
    }

    private static void sumsOfLeaves() {
        long[][] rows = {{2, 40}, {3, 60}, {4, 0}, {5, MOST}};
        for (long[] row : rows) {
            int e = (int) row[0];
            longs("9: pay of " + e, RangesTest::leaves, (x, n) -> x.pay(e, n), 0, row[1], 5);
            longs("11: split of " + e, RangesTest::leaves, (x, n) -> x.split(e, n), 0, row[1], 5);
            longs("12: hand of " + e, RangesTest::leaves, (x, n) -> x.hand(e, n, 5), 0, row[1], 5);
        }
        ints("12: hand, owner", RangesTest::leaves, (x, n) -> x.hand(2, 5, (int) n), 1, 1000, 5);
        // what sum() tells of an entry with parts: up to there it is 8, above it 5
        outs("9: pay with parts", RangesTest::leaves, (x, n) -> x.pay(1, n), 8, 0, 100);
        outs("9: pay with parts", RangesTest::leaves, (x, n) -> x.pay(1, n), 5, -1, 101);
        outs("11: split with parts", RangesTest::leaves, (x, n) -> x.split(1, n), 8, 0, 100);
        outs("11: split with parts", RangesTest::leaves, (x, n) -> x.split(1, n), 5, -1, 101);
        outs("12: hand with parts", RangesTest::leaves, (x, n) -> x.hand(1, n, 5), 8, 0, 100);
        outs("12: hand with parts", RangesTest::leaves, (x, n) -> x.hand(1, n, 5), 5, -1, 101);
        Supplier<RankBook> paid = () -> {
            RankBook x = leaves();
            x.pay(2, 15);
            return x;
        };
        longs("9: pay, what is left", paid, (x, n) -> x.pay(2, n), 0, 25, 5);
        longs("11: split, what is left", paid, (x, n) -> x.split(2, n), 0, 25, 5);
        longs("12: hand, what is left", paid, (x, n) -> x.hand(2, n, 5), 0, 25, 5);
        outs("9: pay with parts, what is left", paid, (x, n) -> x.pay(1, n), 8, 85);
        outs("9: pay with parts, what is left", paid, (x, n) -> x.pay(1, n), 5, 86);
    }

    /** Top 1 of 100 that owes 60 by parts 2 of 20 and 3 of 40; top 4 of 0; top 5 of the most. */
    private static RankBook tops() {
        RankBook x = new RankBook();
        x.folio(1);
        x.enter(0, 3, 100, 0, 1);
        x.owe(1, 60);
        x.split(1, 20);
        x.enter(0, 3, 0, 0, 1);
        x.enter(0, 3, MOST, 0, 1);
        return x;
    }

    private static void sumsOfTops() {
        Call part = (x, n) -> flag(x.owe(2, n));
        ins("8: owe of a part", RangesTest::tops, part, 0, 60);
        outs("8: owe of a part, above the top together", RangesTest::tops, part, 8, 61, 100);
        outs("8: owe of a part, above the top", RangesTest::tops, part, 5, 101, Long.MAX_VALUE);
        outs("8: owe of a part, below 0", RangesTest::tops, part, 5, -1, Long.MIN_VALUE);
        longs("8: owe of a top of 0", RangesTest::tops, (x, n) -> flag(x.owe(4, n)), 0, 0, 5);
        longs("8: owe of the greatest", RangesTest::tops, (x, n) -> flag(x.owe(5, n)), 0, MOST, 5);
        outs("8: owe with parts", RangesTest::tops, (x, n) -> flag(x.owe(1, n)), 8, 0, 100);
        outs("8: owe with parts", RangesTest::tops, (x, n) -> flag(x.owe(1, n)), 5, -1, 101);
    }

    /** Charges 1 to 4; posts 1 and 2. */
    private static RankBook posted() {
        RankBook x = ends(1);
        x.post(1, 2, 5);
        x.post(2, 4, 5);
        return x;
    }

    private static void postNumbers() {
        longs("13: post, limit", RangesTest::posted, (x, n) -> x.post(1, 4, n), 0, MOST, 5);
        ints("14: undo, post", RangesTest::posted, (x, n) -> flag(x.undo((int) n)), 1, 2, 1);
        outs("14: undo, ahead of any", () -> ends(1), (x, n) -> flag(x.undo((int) n)), 1, 0, 1);
    }

    private static void datesOfStrikes() {
        Call strike = (x, n) -> flag(x.since((int) n) && x.strike(1));
        Supplier<RankBook> scene = () -> {
            RankBook x = land();
            x.day(20);
            return x;
        };
        ins("16: strike on", scene, strike, 10, 11, 20);
        for (int early : new int[] {0, 9}) {
            C.denied("16: strike ahead of its date, on " + early, () -> {
                RankBook x = scene.get();
                x.since(early);
                return x;
            }, x -> x.strike(1), 8);
        }
    }

    /** On day 10 a caution for so many days; on day 'dated' the charge 2; TODAY is 100. */
    private static RankBook cautioned(int keepsFor, int dated) {
        RankBook x = new RankBook();
        x.folio(1);
        x.day(100);
        x.since(10);
        x.enter(0, 6, 50, keepsFor, 1);
        x.since(dated);
        x.enter(0, 1, 100, 0, 1);
        return x;
    }

    private static void daysOfCautions() {
        for (int keepsFor : new int[] {0, 1, 5, 90}) {
            for (int dated : new int[] {10, 10 + keepsFor}) {
                C.did("17: for " + keepsFor + " days, dated " + dated, cautioned(keepsFor, dated),
                        x -> x.keep(1, 2));
            }
            C.denied("17: for " + keepsFor + " days, dated a day ahead", () -> cautioned(keepsFor, 9),
                    x -> x.keep(1, 2), 8);
            if (keepsFor < 90) {
                C.denied("17: for " + keepsFor + " days, dated a day too late",
                        () -> cautioned(keepsFor, 11 + keepsFor), x -> x.keep(1, 2), 8);
            }
        }
    }

    private static void places() {
        // charges 1, 2 and 4; the caution has no place
        ints("19: list, i", () -> ends(1), (x, n) -> x.list(0, 0, (int) n), 0, 2, 5);
        ints("22: as, i", () -> ends(1), (x, n) -> x.as(0, 0, 0, (int) n), 0, 2, 5);
        Supplier<RankBook> empty = () -> {
            RankBook x = new RankBook();
            x.folio(1);
            return x;
        };
        outs("19: list of nothing, i", empty, (x, n) -> x.list(0, 0, (int) n), 5, -1, 0, 1);
        outs("22: as of nothing, i", empty, (x, n) -> x.as(0, 0, 0, (int) n), 5, -1, 0, 1);
        RankBook x = ends(1);
        C.due("20: the first place", x.rank(1, 0), 0);
        C.due("20: the last place", x.rank(4, 0), 2);
    }

    private static void daysOfOrders() {
        Supplier<RankBook> scene = () -> {
            RankBook x = ends(1);
            x.day(10);
            return x;
        };
        ints("22: as, day", scene, (x, n) -> x.as(0, (int) n, 10, 0), 0, 10, 5);
        ints("22: as, known", scene, (x, n) -> x.as(0, 10, (int) n, 0), 0, 10, 5);
        ints("22: as on day 0, day", () -> ends(1), (x, n) -> x.as(0, (int) n, 0, 0), 0, 0, 5);
        ints("22: as on day 0, known", () -> ends(1), (x, n) -> x.as(0, 0, (int) n, 0), 0, 0, 5);
    }

    private static void saleNumbers() {
        longs("24: sale, sum", RangesTest::land, (x, n) -> x.sale(0, 0, n, 0), 0, MOST, 5);
        longs("25: sell, sum", RangesTest::land, (x, n) -> x.sell(0, 0, n, 0), 0, MOST, 5);
        for (long sum : new long[] {0, 1, 150, MOST}) {
            longs("24: sale, costs of " + sum, RangesTest::land, (x, n) -> x.sale(0, 0, sum, n), 0, sum, 5);
            longs("25: sell, costs of " + sum, RangesTest::land, (x, n) -> x.sell(0, 0, sum, n), 0, sum, 5);
        }
        Call both = (x, n) -> x.sale(0, 0, n, n);
        ins("24: sale, sum and costs", RangesTest::land, both, 0, MOST);
        outs("24: sale, sum and costs", RangesTest::land, both, 5, -1, MOST + 1, Long.MIN_VALUE, Long.MAX_VALUE);
    }

    private static void toldNumbers() {
        Call tell = (x, n) -> flag(x.tell(1, n));
        ins("27: tell, sum", RangesTest::land, tell, 0, 1, MOST, MOST + 1, Long.MAX_VALUE);
        outs("27: tell, sum", RangesTest::land, tell, 5, -1, Long.MIN_VALUE);
        RankBook x = land();
        x.sale(0, 0, 170, 0);
        x.tell(1, 100);
        C.due("28: the owner's, a coin below", x.check(69), -1);
        x.tell(1, 100);
        C.due("28: the owner's", x.check(70), 0);
        x.tell(1, 100);
        C.due("28: the owner's, a coin above", x.check(71), -1);
        for (long told : new long[] {99, 101, Long.MAX_VALUE}) {
            x.tell(1, told);
            C.due("28: told " + told, x.check(70), 1);
        }
        for (long owner : new long[] {-1, Long.MIN_VALUE, Long.MAX_VALUE}) {
            x.tell(1, 100);
            C.due("28: the owner's " + owner, x.check(owner), -1);
        }
    }

    /** Calls that tell alone answer out of their range what the document says, and leave STATUS. */
    private static void numbersThatTell() {
        RankBook x = posted();
        x.post(4, 1, 5);
        x.sale(0, 0, 150, 0);
        long[] nobody = {Integer.MIN_VALUE, -1, 0, 5, Integer.MAX_VALUE};
        for (long n : nobody) {
            C.tellsAlone("26: share " + n, x, y -> y.share((int) n), 0);
            C.tellsAlone("30: due " + n, x, y -> y.due((int) n), -1);
            C.tellsAlone("31: kind of " + n, x, y -> y.kind((int) n, 0), -1);
            C.tellsAlone("32: sum " + n, x, y -> y.sum((int) n), -1);
            C.tellsAlone("33: parcels " + n, x, y -> y.parcels((int) n), 0);
        }
        for (int n : new int[] {1, 4}) {
            C.tellsAlone("26: share " + n, x, y -> y.share(n), n == 1 ? 100 : 5); // 4 has it by post 2
            C.tellsAlone("30: due " + n, x, y -> y.due(n), 100);
            C.tellsAlone("31: kind of " + n, x, y -> y.kind(n, 0), 1);
            C.tellsAlone("32: sum " + n, x, y -> y.sum(n), 100);
            C.tellsAlone("33: parcels " + n, x, y -> y.parcels(n), 1);
        }
        for (int n : new int[] {Integer.MIN_VALUE, -1, 10, Integer.MAX_VALUE}) {
            C.tellsAlone("31: kind, what " + n, x, y -> y.kind(1, n), -1);
        }
        C.tellsAlone("31: kind, what 9", x, y -> y.kind(1, 9), 0);
        for (int n : new int[] {Integer.MIN_VALUE, -1, 7, Integer.MAX_VALUE}) {
            C.tellsAlone("35: count " + n, x, y -> y.count(n), -1);
        }
        C.tellsAlone("35: count 6", x, y -> y.count(6), 1);
        for (int n : new int[] {Integer.MIN_VALUE, -1, 3, Integer.MAX_VALUE}) {
            C.tellsAlone("29: circle " + n, x, y -> y.circle(n), -1);
        }
        C.tellsAlone("29: circle 0", x, y -> y.circle(0), 4);
        C.tellsAlone("29: circle 2", x, y -> y.circle(2), 2);
        C.tellsAlone("29: circle 0 ahead of any", ends(1), y -> y.circle(0), -1);
    }
}
