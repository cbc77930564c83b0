import java.util.function.Supplier;
import java.util.function.ToLongFunction;

/**
 * Where two reasons to refuse a call hold at once, STATUS is the first one of the document's
 * list. For each call there is a line for each two of its reasons that can hold together; the
 * text names the promise and the two, and the first one is due.
 */
final class FirstReasonTest {
    private static final long MOST = 999_999_999_999L;
    private static final Checks C = new Checks("FirstReasonTest");

    public static void main(String[] args) {
        folios();
        enter();
        claim();
        owe();
        pay();
        paperAndUndo();
        split();
        hand();
        post();
        release();
        strike();
        keep();
        keepInTime();
        orders();
        ranks();
        as();
        sales();
        tell();
        C.finish();
    }

    private static long flag(boolean done) {
        return done ? 1 : RankBook.NONE;
    }

    private static void first(int status, String what, Supplier<RankBook> scene, ToLongFunction<RankBook> call) {
        C.refused(what, scene, call, status);
    }

    /**
     * One entry of each kind on parcels 0 and 1, numbered as its kind, 7 in folio 1, parcel 2 torn.
     * Parts: 8 and 9 of the order, 10 and 11 of the top, 12 and 13 of the claim, which is told.
     * The caution keeps the charge, which gives way to the order; no paper is there.
     */
    private static RankBook scene() {
        RankBook x = new RankBook();
        x.folio(3);
        x.folio(1);
        x.day(10);
        for (int kind = 1; kind <= 6; kind++) {
            x.enter(0, kind, 100, 5, 3);
        }
        x.enter(1, 1, 100, 0, 1);
        x.owe(3, 60);
        x.split(2, 40);
        x.split(3, 20);
        x.split(5, 10);
        x.claim(5, 0, 1);
        x.keep(6, 1);
        x.post(1, 2, 5);
        x.paper(2, false);
        x.paper(3, false);
        x.tear(0, 2);
        return x;
    }

    /** All entries of folio 0 are struck; the acts that follow are dated ahead of all entries. */
    private static RankBook struck() {
        RankBook x = scene();
        for (int e = 1; e <= 6; e++) {
            x.strike(e);
        }
        x.since(3);
        return x;
    }

    private static void fill(RankBook x) {
        for (int i = x.count(2); i < 300; i++) {
            x.enter(0, 1, 10, 0, 1);
        }
    }

    private static RankBook full() {
        RankBook x = scene();
        fill(x);
        return x;
    }

    private static RankBook fullStruck() {
        RankBook x = struck();
        fill(x);
        return x;
    }

    private static RankBook fullOfPosts() {
        RankBook x = scene();
        for (int i = x.count(3); i < 100; i++) {
            x.post(1, 4, 5);
        }
        return x;
    }

    private static RankBook fullOfPostsStruck() {
        RankBook x = fullOfPosts();
        x.strike(4);
        return x;
    }

    private static void folios() {
        Supplier<RankBook> full = () -> {
            RankBook x = scene();
            for (int i = x.count(1); i < 40; i++) {
                x.folio(1);
            }
            return x;
        };
        first(5, "2: 5 and 10, too few", full, x -> x.folio(0));
        first(5, "2: 5 and 10, too many", full, x -> x.folio(61));
        first(10, "2: 10 alone", full, x -> x.folio(60));
        first(1, "3: 1 and 2", FirstReasonTest::scene, x -> flag(x.tear(2, 3)));
        first(1, "3: 1 and a torn one elsewhere", FirstReasonTest::scene, x -> flag(x.tear(2, 2)));
        first(1, "23: 1", FirstReasonTest::scene, x -> flag(x.choose(2)));
    }

    private static void enter() {
        first(1, "6: 1 and 2", FirstReasonTest::scene, x -> x.enter(2, 1, 5, 0, 0));
        first(1, "6: 1 and 3", FirstReasonTest::scene, x -> x.enter(2, 1, 5, 0, 4));
        first(1, "6: 1 and 5", FirstReasonTest::scene, x -> x.enter(2, 7, 5, 0, 1));
        first(1, "6: 1 and 10", FirstReasonTest::full, x -> x.enter(2, 1, 5, 0, 1));
        first(2, "6: 2 and 3", FirstReasonTest::scene, x -> x.enter(0, 1, 5, 0, 4 | 8));
        first(2, "6: 2 and 5, kind", FirstReasonTest::scene, x -> x.enter(0, 0, 5, 0, 0));
        first(2, "6: 2 and 5, sum", FirstReasonTest::scene, x -> x.enter(0, 1, -1, 0, 8));
        first(2, "6: 2 and 5, rate", FirstReasonTest::scene, x -> x.enter(0, 1, 5, 201, 8));
        first(2, "6: 2 and 10", FirstReasonTest::full, x -> x.enter(0, 1, 5, 0, 0));
        first(3, "6: 3 and 5, kind", FirstReasonTest::scene, x -> x.enter(0, 7, 5, 0, 4));
        first(3, "6: 3 and 5, sum", FirstReasonTest::scene, x -> x.enter(0, 1, MOST + 1, 0, 5));
        first(3, "6: 3 and 5, rate", FirstReasonTest::scene, x -> x.enter(0, 4, 5, 36501, 7));
        first(3, "6: 3 and 10", FirstReasonTest::full, x -> x.enter(0, 1, 5, 0, 4));
        first(5, "6: 5 and 10, kind", FirstReasonTest::full, x -> x.enter(0, 7, 5, 0, 1));
        first(5, "6: 5 and 10, sum", FirstReasonTest::full, x -> x.enter(0, 1, -1, 0, 1));
        first(5, "6: 5 and 10, rate", FirstReasonTest::full, x -> x.enter(0, 1, 5, -1, 1));
        first(10, "6: 10 alone", FirstReasonTest::full, x -> x.enter(0, 1, 5, 0, 1));
    }

    private static void claim() {
        first(1, "7: 1 and 5", FirstReasonTest::scene, x -> flag(x.claim(14, -1, 0)));
        first(4, "7: 4 and 5, from", FirstReasonTest::scene, x -> flag(x.claim(1, 36501, 1)));
        first(4, "7: 4 and 5, years", FirstReasonTest::scene, x -> flag(x.claim(4, 0, 31)));
        first(4, "7: 4 and 5, a part", FirstReasonTest::scene, x -> flag(x.claim(12, -1, 1)));
        first(4, "7: 4 and 8, a part", FirstReasonTest::scene, x -> flag(x.claim(13, 0, 1)));
        first(5, "7: 5 and 8, from", FirstReasonTest::scene, x -> flag(x.claim(5, 36501, 1)));
        first(5, "7: 5 and 8, years", FirstReasonTest::scene, x -> flag(x.claim(5, 0, 0)));
        first(8, "7: 8 alone", FirstReasonTest::scene, x -> flag(x.claim(5, 0, 1)));
        first(8, "7: 8, struck", FirstReasonTest::struck, x -> flag(x.claim(5, 0, 1)));
    }

    private static void owe() {
        first(1, "8: 1 and 5", FirstReasonTest::scene, x -> flag(x.owe(14, -1)));
        first(4, "8: 4 and 5", FirstReasonTest::scene, x -> flag(x.owe(1, -1)));
        first(4, "8: 4 and 6", FirstReasonTest::struck, x -> flag(x.owe(1, 5)));
        first(4, "8: 4 and 8", FirstReasonTest::scene, x -> flag(x.owe(2, 5)));
        first(5, "8: 5 and 6", FirstReasonTest::struck, x -> flag(x.owe(10, 101)));
        first(5, "8: 5 and 8, parts", FirstReasonTest::scene, x -> flag(x.owe(3, 101)));
        first(5, "8: 5 and 8, together", FirstReasonTest::scene, x -> flag(x.owe(10, 101)));
        first(6, "8: 6 and 8, parts", FirstReasonTest::struck, x -> flag(x.owe(3, 5)));
        first(6, "8: 6 and 8, together", FirstReasonTest::struck, x -> flag(x.owe(10, 61)));
        first(8, "8: 8 alone, parts", FirstReasonTest::scene, x -> flag(x.owe(3, 5)));
        first(8, "8: 8 alone, together", FirstReasonTest::scene, x -> flag(x.owe(10, 61)));
    }

    private static void pay() {
        first(1, "9: 1 and 5", FirstReasonTest::scene, x -> x.pay(14, -1));
        first(4, "9: 4 and 5, a rent", FirstReasonTest::scene, x -> x.pay(4, 101));
        first(4, "9: 4 and 5, a caution", FirstReasonTest::scene, x -> x.pay(6, -1));
        first(4, "9: 4 and 6", FirstReasonTest::struck, x -> x.pay(4, 5));
        first(5, "9: 5 and 6", FirstReasonTest::struck, x -> x.pay(1, 101));
        first(5, "9: 5 and 8", FirstReasonTest::scene, x -> x.pay(2, 101));
        first(6, "9: 6 and 8", FirstReasonTest::struck, x -> x.pay(2, 5));
        first(8, "9: 8 alone", FirstReasonTest::scene, x -> x.pay(2, 5));
    }

    private static void paperAndUndo() {
        first(1, "10: 1", FirstReasonTest::scene, x -> flag(x.paper(14, true)));
        first(4, "10: 4, struck", FirstReasonTest::struck, x -> flag(x.paper(1, true)));
        first(4, "10: 4, a part", FirstReasonTest::scene, x -> flag(x.paper(12, true)));
        Supplier<RankBook> undone = () -> {
            RankBook x = scene();
            x.undo(1);
            return x;
        };
        first(1, "14: 1, behind the last", undone, x -> flag(x.undo(2)));
        first(8, "14: 8", undone, x -> flag(x.undo(1)));
    }

    private static void split() {
        first(1, "11: 1 and 5", FirstReasonTest::scene, x -> x.split(14, -1));
        first(1, "11: 1 and 10", FirstReasonTest::full, x -> x.split(301, 5));
        first(4, "11: 4 and 5, a rent", FirstReasonTest::scene, x -> x.split(4, 101));
        first(4, "11: 4 and 5, a caution", FirstReasonTest::scene, x -> x.split(6, -1));
        first(4, "11: 4 and 6", FirstReasonTest::struck, x -> x.split(4, 5));
        first(4, "11: 4 and 10", FirstReasonTest::full, x -> x.split(6, 5));
        first(5, "11: 5 and 6", FirstReasonTest::struck, x -> x.split(1, 101));
        first(5, "11: 5 and 8", FirstReasonTest::scene, x -> x.split(2, 101));
        first(5, "11: 5 and 10", FirstReasonTest::full, x -> x.split(1, -1));
        first(6, "11: 6 and 8", FirstReasonTest::struck, x -> x.split(2, 5));
        first(6, "11: 6 and 10", FirstReasonTest::fullStruck, x -> x.split(1, 5));
        first(8, "11: 8 and 10", FirstReasonTest::full, x -> x.split(2, 5));
        first(8, "11: 8 alone, without a paper", FirstReasonTest::scene, x -> x.split(2, 5));
        first(10, "11: 10 alone", FirstReasonTest::full, x -> x.split(1, 5));
    }

    private static void hand() {
        first(1, "12: 1 and 5", FirstReasonTest::scene, x -> x.hand(14, -1, 0));
        first(1, "12: 1 and 10", FirstReasonTest::full, x -> x.hand(301, 5, 5));
        first(4, "12: 4 and 5, owner", FirstReasonTest::scene, x -> x.hand(4, 5, 0));
        first(4, "12: 4 and 5, sum", FirstReasonTest::scene, x -> x.hand(6, 101, 5));
        first(4, "12: 4 and 6", FirstReasonTest::struck, x -> x.hand(6, 5, 5));
        first(4, "12: 4 and 10", FirstReasonTest::full, x -> x.hand(4, 5, 5));
        first(5, "12: 5 and 6, owner", FirstReasonTest::struck, x -> x.hand(1, 5, 1001));
        first(5, "12: 5 and 6, sum", FirstReasonTest::struck, x -> x.hand(1, 101, 5));
        first(5, "12: 5 and 7, owner", FirstReasonTest::scene, x -> x.hand(8, 5, 0));
        first(5, "12: 5 and 7, sum", FirstReasonTest::scene, x -> x.hand(10, 21, 5));
        first(5, "12: 5 and 8", FirstReasonTest::scene, x -> x.hand(5, 101, 5));
        first(5, "12: 5 and 10", FirstReasonTest::full, x -> x.hand(1, 5, 0));
        first(6, "12: 6 and 7", FirstReasonTest::struck, x -> x.hand(8, 5, 5));
        first(6, "12: 6 and 8", FirstReasonTest::struck, x -> x.hand(5, 5, 5));
        first(6, "12: 6 and 10", FirstReasonTest::fullStruck, x -> x.hand(1, 5, 5));
        first(7, "12: 7 and 8, an order", FirstReasonTest::scene, x -> x.hand(2, 5, 5));
        first(7, "12: 7 and 8, a top", FirstReasonTest::scene, x -> x.hand(3, 5, 5));
        first(7, "12: 7 and 10", FirstReasonTest::full, x -> x.hand(8, 5, 5));
        first(8, "12: 8 and 10", FirstReasonTest::full, x -> x.hand(5, 5, 5));
        first(8, "12: 8 alone", FirstReasonTest::scene, x -> x.hand(5, 5, 5));
        first(10, "12: 10 alone", FirstReasonTest::full, x -> x.hand(1, 5, 5));
    }

    private static void post() {
        first(1, "13: 1 and 4", FirstReasonTest::scene, x -> x.post(6, 14, 5));
        first(1, "13: 1 and 5", FirstReasonTest::scene, x -> x.post(14, 1, -1));
        first(1, "13: 1 and 6", FirstReasonTest::struck, x -> x.post(1, 14, 5));
        first(1, "13: 1 and 10", FirstReasonTest::fullOfPosts, x -> x.post(14, 1, 5));
        first(4, "13: 4 and 5, limit", FirstReasonTest::scene, x -> x.post(6, 1, -1));
        first(4, "13: 4 and 5, one whole", FirstReasonTest::scene, x -> x.post(6, 6, 5));
        first(4, "13: 4 and 6, struck", FirstReasonTest::struck, x -> x.post(1, 6, 5));
        first(4, "13: 4 and 6, two folios", FirstReasonTest::scene, x -> x.post(6, 7, 5));
        first(4, "13: 4 and 10", FirstReasonTest::fullOfPosts, x -> x.post(1, 6, 5));
        first(5, "13: 5 and 6, limit", FirstReasonTest::struck, x -> x.post(1, 2, MOST + 1));
        first(5, "13: 5 and 6, one whole", FirstReasonTest::struck, x -> x.post(8, 9, 5));
        first(5, "13: 5 and 6, two folios", FirstReasonTest::scene, x -> x.post(1, 7, -1));
        first(5, "13: 5 and 9", FirstReasonTest::scene, x -> x.post(2, 1, -1));
        first(5, "13: 5 and 10, limit", FirstReasonTest::fullOfPosts, x -> x.post(1, 4, -1));
        first(5, "13: 5 and 10, one whole", FirstReasonTest::fullOfPosts, x -> x.post(2, 8, 5));
        first(6, "13: 6 and 9", FirstReasonTest::struck, x -> x.post(2, 1, 5));
        first(6, "13: 6 and 10, struck", FirstReasonTest::fullOfPostsStruck, x -> x.post(3, 4, 5));
        first(6, "13: 6 and 10, two folios", FirstReasonTest::fullOfPosts, x -> x.post(7, 4, 5));
        C.circled("13: 9 and 10", FirstReasonTest::fullOfPosts, x -> x.post(2, 1, 5));
        C.circled("13: 9 alone, of parts", FirstReasonTest::scene, x -> x.post(9, 1, 5));
        first(10, "13: 10 alone", FirstReasonTest::fullOfPosts, x -> x.post(1, 4, 5));
    }

    private static void release() {
        first(1, "15: 1 and 2", FirstReasonTest::scene, x -> flag(x.release(14, 3)));
        first(2, "15: 2 and 6", FirstReasonTest::struck, x -> flag(x.release(1, 3)));
        first(2, "15: 2, a parcel of another folio", FirstReasonTest::scene, x -> flag(x.release(7, 1)));
        first(3, "15: 3 and 6, struck", FirstReasonTest::struck, x -> flag(x.release(1, 2)));
        first(3, "15: 3 and 6, not entered for it", FirstReasonTest::scene, x -> flag(x.release(1, 2)));
        first(6, "15: 6 alone", FirstReasonTest::struck, x -> flag(x.release(1, 0)));
    }

    private static void strike() {
        first(1, "16: 1", FirstReasonTest::struck, x -> flag(x.strike(14)));
        first(4, "16: 4 and 6", FirstReasonTest::struck, x -> flag(x.strike(8)));
        Supplier<RankBook> early = () -> {
            RankBook x = scene();
            x.since(9);
            return x;
        };
        first(4, "16: 4 and 8", early, x -> flag(x.strike(8)));
        first(6, "16: 6 and 8", FirstReasonTest::struck, x -> flag(x.strike(1)));
        first(8, "16: 8 alone", early, x -> flag(x.strike(1)));
    }

    private static void keep() {
        first(1, "17: 1 and 4, no such caution", FirstReasonTest::scene, x -> flag(x.keep(14, 8)));
        first(1, "17: 1 and 4, no such whole", FirstReasonTest::scene, x -> flag(x.keep(1, 14)));
        first(1, "17: 1 and 6", FirstReasonTest::struck, x -> flag(x.keep(6, 14)));
        first(1, "17: 1 and 8", FirstReasonTest::scene, x -> flag(x.keep(6, 14)));
        first(4, "17: 4 and 6, that is none", FirstReasonTest::struck, x -> flag(x.keep(1, 2)));
        first(4, "17: 4 and 6, this is one", FirstReasonTest::struck, x -> flag(x.keep(6, 6)));
        first(4, "17: 4 and 6, a part", FirstReasonTest::struck, x -> flag(x.keep(6, 8)));
        first(4, "17: 4 and 6, two folios", FirstReasonTest::scene, x -> flag(x.keep(1, 7)));
        first(4, "17: 4 and 8, that is none", FirstReasonTest::scene, x -> flag(x.keep(2, 1)));
        first(4, "17: 4 and 8, this is one", FirstReasonTest::scene, x -> flag(x.keep(6, 6)));
        first(4, "17: 4 and 8, a part", FirstReasonTest::scene, x -> flag(x.keep(6, 8)));
        first(6, "17: 6 and 8, struck", FirstReasonTest::struck, x -> flag(x.keep(6, 4)));
        first(6, "17: 6 and 8, two folios", FirstReasonTest::scene, x -> flag(x.keep(6, 7)));
        first(8, "17: 8 alone, it keeps one", FirstReasonTest::scene, x -> flag(x.keep(6, 4)));
    }

    /** Each reason for 8, with a struck one, so that 6 is due. */
    private static void keepInTime() {
        int[][] cautionAndWhole = {{14, 4}, {15, 4}, {16, 1}};
        for (int[] pair : cautionAndWhole) {
            Supplier<RankBook> living = () -> {
                RankBook x = scene();
                x.day(12);
                x.enter(0, 6, 5, 9, 1); // 14: a caution of a later day
                x.since(4);
                x.enter(0, 6, 5, 5, 1); // 15: one whose days are over
                x.enter(0, 6, 5, 9, 1); // 16: one in time, for a whole that is kept
                return x;
            };
            String of = "17: keep(" + pair[0] + ", " + pair[1] + "): ";
            first(8, of + "8 alone", living, x -> flag(x.keep(pair[0], pair[1])));
            first(6, of + "6 and 8", () -> {
                RankBook x = living.get();
                x.day(13);
                x.strike(pair[0]);
                return x;
            }, x -> flag(x.keep(pair[0], pair[1])));
        }
    }

    private static void orders() {
        first(1, "18: 1 and 2", FirstReasonTest::scene, x -> x.many(2, 3));
        first(1, "19: 1 and 2", FirstReasonTest::scene, x -> x.list(2, 3, 0));
        first(1, "19: 1 and 5", FirstReasonTest::scene, x -> x.list(2, 0, -1));
        first(2, "19: 2 and 5", FirstReasonTest::scene, x -> x.list(0, 3, -1));
        first(3, "19: 3 and 5", FirstReasonTest::scene, x -> x.list(0, 2, 0));
        first(5, "19: 5 alone", FirstReasonTest::scene, x -> x.list(0, 0, 5));
    }

    private static void ranks() {
        first(1, "20: 1 and 2", FirstReasonTest::scene, x -> x.rank(14, 3));
        first(1, "21: 1 and 2", FirstReasonTest::scene, x -> x.why(14, 3));
        first(2, "20: 2 and 6, struck", FirstReasonTest::struck, x -> x.rank(1, 3));
        first(2, "21: 2 and 6, struck", FirstReasonTest::struck, x -> x.why(1, 3));
        first(2, "20: 2 and 6, a caution", FirstReasonTest::scene, x -> x.rank(6, 3));
        first(2, "21: 2 and 6, a caution", FirstReasonTest::scene, x -> x.why(6, 3));
        first(3, "20: 3 and 6, struck", FirstReasonTest::struck, x -> x.rank(1, 2));
        first(3, "21: 3 and 6, struck", FirstReasonTest::struck, x -> x.why(1, 2));
        first(3, "20: 3 and 6, a caution", FirstReasonTest::scene, x -> x.rank(6, 2));
        first(3, "21: 3 and 6, a caution", FirstReasonTest::scene, x -> x.why(6, 2));
        first(6, "20: 6 alone", FirstReasonTest::struck, x -> x.rank(1, 0));
        first(6, "21: 6 alone", FirstReasonTest::struck, x -> x.why(1, 0));
    }

    private static void as() {
        first(1, "22: 1 and 2", RankBook::new, x -> x.as(3, 0, 0, 0));
        first(1, "22: 1 and 5", RankBook::new, x -> x.as(0, -1, 1, 0));
        first(2, "22: 2 and 5, day", FirstReasonTest::scene, x -> x.as(3, 11, 10, 0));
        first(2, "22: 2 and 5, known", FirstReasonTest::scene, x -> x.as(3, 10, 11, 0));
        first(2, "22: 2 and 5, i", FirstReasonTest::scene, x -> x.as(3, 10, 10, -1));
        first(3, "22: 3 and 5, day", FirstReasonTest::scene, x -> x.as(2, -1, 10, 0));
        first(3, "22: 3 and 5, known", FirstReasonTest::scene, x -> x.as(2, 10, -1, 0));
        first(3, "22: 3 and 5, i", FirstReasonTest::scene, x -> x.as(2, 10, 10, 9));
        first(5, "22: 5 alone", FirstReasonTest::scene, x -> x.as(0, 10, 10, 5));
    }

    private static void sales() {
        for (boolean sold : new boolean[] {false, true}) {
            String of = sold ? "25: " : "24: ";
            first(1, of + "1 and 2", FirstReasonTest::scene, x -> sale(x, sold, 2, 3, 5, 0));
            first(1, of + "1 and 5", FirstReasonTest::scene, x -> sale(x, sold, 2, 0, -1, 0));
            first(2, of + "2 and 5", FirstReasonTest::scene, x -> sale(x, sold, 0, 3, 5, 6));
            first(3, of + "3 and 5, sum", FirstReasonTest::scene, x -> sale(x, sold, 0, 2, MOST + 1, 0));
            first(3, of + "3 and 5, costs", FirstReasonTest::scene, x -> sale(x, sold, 0, 2, 5, -1));
            first(3, of + "3 and 5, costs above sum", FirstReasonTest::scene, x -> sale(x, sold, 0, 2, 5, 6));
            first(3, of + "3 alone", FirstReasonTest::scene, x -> sale(x, sold, 0, 2, 5, 0));
        }
    }

    private static long sale(RankBook x, boolean sold, int folio, int parcel, long sum, long costs) {
        return sold ? x.sell(folio, parcel, sum, costs) : x.sale(folio, parcel, sum, costs);
    }

    private static void tell() {
        first(1, "27: 1 and 5", FirstReasonTest::scene, x -> flag(x.tell(14, -1)));
        first(5, "27: 5 alone", FirstReasonTest::scene, x -> flag(x.tell(13, -1)));
    }
}
