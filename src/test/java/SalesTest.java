/** Promises 24 to 28: sales, shares, and whether they were told right. */
final class SalesTest {
    private static final long MOST = 999_999_999_999L;
    private static final Checks C = new Checks("SalesTest");

    public static void main(String[] args) {
        sale();
        saleRefused();
        keptPlaces();
        leavesAndReleases();
        posts();
        postsOfParts();
        postsOfManyLeaves();
        postsInTurn();
        sell();
        sellRents();
        sellParts();
        coinByCoin();
        soldCoinByCoin();
        rentCoinByCoin();
        limitCoinByCoin();
        refusedSalesLeaveTheOwner();
        share();
        tellAndCheck();
        C.finish();
    }

    /** Charges of 100, 50 and 80 on parcel 0, the first on parcel 1 too; parcel 2 is torn. */
    private static RankBook scene() {
        RankBook x = new RankBook();
        x.folio(3);
        x.folio(1);
        x.enter(0, 1, 100, 0, 3);
        x.enter(0, 1, 50, 0, 1);
        x.enter(0, 1, 80, 0, 1);
        x.tear(0, 2);
        return x;
    }

    private static void shares(String what, RankBook x, long... want) {
        for (int i = 0; i < want.length; i++) {
            C.due(what + ": share(" + (i + 1) + ")", x.share(i + 1), want[i]);
        }
    }

    private static void sums(String what, RankBook x, long... want) {
        for (int i = 0; i < want.length; i++) {
            C.due(what + ": sum(" + (i + 1) + ")", x.sum(i + 1), want[i]);
        }
    }

    private static void sale() {
        RankBook x = scene();
        C.done("24: more than is due", x, y -> y.sale(0, 0, 300, 20), 50);
        shares("24: more than is due", x, 100, 50, 80);
        C.done("24: costs first", x, y -> y.sale(0, 0, 170, 40), 0);
        shares("24: costs first", x, 100, 30, 0);
        C.done("24: costs alone", x, y -> y.sale(0, 0, 170, 170), 0);
        shares("24: costs alone", x, 0, 0, 0);
        C.done("24: nothing", x, y -> y.sale(0, 0, 0, 0), 0);
        C.done("24: just what is due", x, y -> y.sale(0, 0, 230, 0), 0);
        C.done("24: another parcel", x, y -> y.sale(0, 1, 230, 0), 130);
        shares("24: another parcel", x, 100, 0, 0);
        C.done("24: the most", x, y -> y.sale(1, 0, MOST, 1), MOST - 1);
        shares("24: another folio", x, 0, 0, 0);
        C.due("24: nothing is sold", x.count(5), 0);
        C.due("24: sum(1) is left", x.sum(1), 100);
        C.due("24: parcels(1) are left", x.parcels(1), 3);
    }

    private static RankBook offered() {
        RankBook x = scene();
        x.sale(0, 0, 120, 0);
        return x;
    }

    private static void refusedBoth(int folio, int parcel, long sum, long costs, int status) {
        String rest = "(" + folio + ", " + parcel + ", " + sum + ", " + costs + ")";
        C.refused("24: sale" + rest, SalesTest::offered, y -> y.sale(folio, parcel, sum, costs), status);
        C.refused("25: sell" + rest, SalesTest::offered, y -> y.sell(folio, parcel, sum, costs), status);
    }

    private static void saleRefused() {
        refusedBoth(2, 0, 5, 0, 1);
        refusedBoth(-1, -1, -1, -1, 1);
        refusedBoth(0, 3, -1, -1, 2);
        refusedBoth(0, -1, 5, 0, 2);
        refusedBoth(0, 2, -1, -1, 3);
        refusedBoth(0, 0, -1, 0, 5);
        refusedBoth(0, 0, MOST + 1, 0, 5);
        refusedBoth(0, 0, 5, -1, 5);
        refusedBoth(0, 0, 5, 6, 5);
        refusedBoth(0, 0, MOST, MOST + 1, 5);
        refusedBoth(0, 0, Long.MAX_VALUE, Long.MAX_VALUE, 5);
        refusedBoth(0, 0, Long.MIN_VALUE, Long.MIN_VALUE, 5);
        RankBook x = offered();
        x.sale(0, 0, -1, 0);
        x.tell(1, 100);
        x.tell(2, 20);
        C.due("28: a refused sale leaves the latest", x.check(0), 0);
    }

    private static void keptPlaces() {
        RankBook x = new RankBook();
        x.folio(1);
        x.enter(0, 6, 50, 9, 1);
        x.day(1);
        x.enter(0, 1, 100, 0, 1);
        x.day(2);
        x.enter(0, 1, 80, 0, 1);
        x.keep(1, 3);
        C.due("24: kept", x.sale(0, 0, 60, 0), 0);
        shares("24: kept", x, 0, 10, 50);
        C.due("24: kept, to the limit", x.sale(0, 0, 160, 0), 0);
        shares("24: kept, to the limit", x, 0, 100, 60);
        C.due("24: kept, all", x.sale(0, 0, 200, 0), 20);
        shares("24: kept, all", x, 0, 100, 80);
        x.pay(3, 60);
        C.due("24: kept, less than the limit", x.sale(0, 0, 60, 0), 0);
        shares("24: kept, less than the limit", x, 0, 40, 20);
        C.due("25: sell", x.sell(0, 0, 60, 0), 0);
        C.due("25: the caution is left there", x.parcels(1), 1);
        C.due("25: with its sum", x.sum(1), 50);
        C.due("25: nobody stands there", x.many(0, 0), 0);
    }

    private static void leavesAndReleases() {
        RankBook x = new RankBook();
        x.folio(2);
        x.enter(0, 1, 30, 100, 3);
        x.split(1, 15);
        x.day(365);
        C.due("24: leaves in order", x.sale(0, 0, 20, 0), 0);
        shares("24: leaves in order", x, 20, 16, 4);
        x.release(2, 0);
        C.due("24: of released leaves nothing counts", x.sale(0, 0, 100, 0), 100 - 17);
        shares("24: of released leaves nothing counts", x, 17, 0, 17);
        C.due("24: on the other parcel they do", x.sale(0, 1, 100, 0), 100 - 33);
        C.due("25: sell", x.sell(0, 0, 7, 0), 0);
        sums("25: released leaves keep their sum", x, 25, 15, 10);
        C.due("25: interest runs anew for all", x.due(1), 25);
        C.due("25: the part that counted", x.parcels(3), 2);
        C.due("25: the one that did not", x.parcels(2), 2);
    }

    private static void posts() {
        RankBook x = scene();
        x.post(1, 3, 60);
        C.due("24: a post", x.sale(0, 0, 120, 0), 0);
        shares("24: a post", x, 40, 20, 60);
        C.due("24: a post, both have", x.sale(0, 0, 180, 0), 0);
        shares("24: a post, both have", x, 70, 50, 60); // x 60, y 30
        C.due("24: a post, all have", x.sale(0, 0, 240, 0), 10);
        shares("24: a post, all have", x, 100, 50, 80);
        C.due("24: a post, A has little", x.sale(0, 0, 30, 0), 0);
        shares("24: a post, A has little", x, 0, 0, 30);
        x.pay(3, 50);
        C.due("24: a post, little is due to B", x.sale(0, 0, 120, 0), 0);
        shares("24: a post, little is due to B", x, 70, 20, 30);
        C.due("24: not where they do not lie", x.sale(0, 1, 120, 0), 20);
        shares("24: not where they do not lie", x, 100, 0, 0);
        x.undo(1);
        C.due("24: undone", x.sale(0, 0, 120, 0), 0);
        shares("24: undone", x, 100, 20, 0);
        RankBook none = scene();
        none.post(1, 3, 0);
        C.due("24: a post up to nothing", none.sale(0, 0, 120, 0), 0);
        shares("24: a post up to nothing", none, 100, 20, 0);
        C.due("24: changes places still", none.list(0, 0, 0), 3);
    }

    private static void postsOfParts() {
        RankBook x = new RankBook();
        x.folio(1);
        x.enter(0, 1, 100, 0, 1);
        x.split(1, 40); // 2, 3
        x.enter(0, 1, 100, 0, 1); // 4
        x.split(4, 30); // 5, 6
        x.post(1, 6, 50);
        C.due("24: parts", x.sale(0, 0, 120, 0), 0);
        shares("24: A gives from its last leaf, B alone gets", x, 50, 40, 10, 70, 20, 50);
        C.due("24: parts, more", x.sale(0, 0, 150, 0), 0);
        shares("24: A gets from its first leaf", x, 70, 40, 30, 80, 30, 50); // x 50, y 20
        x.release(6, 0);
        C.due("24: a part that is released", x.sale(0, 0, 120, 0), 0);
        shares("24: the post does not count", x, 100, 40, 60, 20, 20, 0);
    }

    private static void postsOfManyLeaves() {
        RankBook x = new RankBook();
        x.folio(1);
        x.enter(0, 1, 100, 0, 1);
        x.split(1, 60); // 2, 3 with 40
        x.split(2, 50); // 4 with 50, 5 with 10
        x.split(4, 20); // 6 with 20, 7 with 30
        x.enter(0, 1, 100, 0, 1); // 8
        x.split(8, 30); // 9, 10 with 70
        x.split(10, 30); // 11 with 30, 12 with 40
        C.due("24: many leaves", x.sale(0, 0, 150, 0), 0);
        shares("24: many leaves", x, 100, 60, 40, 50, 10, 20, 30, 50, 30, 20, 20, 0);
        x.post(1, 10, 65);
        // x 65, y 20: A gives 40, 10, 15 and gets 15, 5; B gives 20 and gets 30, 35
        C.due("24: many leaves, a post", x.sale(0, 0, 150, 0), 0);
        shares("24: many leaves, a post", x, 55, 55, 0, 50, 5, 20, 30, 95, 30, 65, 30, 35);
        x.post(4, 9, 100);
        // x 30, y 30: each gives and gets the same
        C.due("24: many leaves, a post of parts", x.sale(0, 0, 150, 0), 0);
        shares("24: many leaves, a post of parts", x, 55, 55, 0, 50, 5, 20, 30, 95, 30, 65, 30, 35);
        x.undo(1);
        x.post(2, 12, 45);
        // x 40, y 0: 5, 7 give 10 and 30
        C.due("24: many leaves, to the last", x.sale(0, 0, 150, 0), 0);
        shares("24: many leaves, to the last", x, 60, 20, 40, 20, 0, 20, 0, 90, 30, 60, 20, 40);
        x.undo(2);
        x.undo(3);
        x.post(8, 1, 45);
        // x 45, y 45: 11 gives 20 and 9 gives 25, and they get them back
        C.due("24: many leaves, given and got again", x.sale(0, 0, 150, 0), 0);
        shares("24: many leaves, given and got again", x, 100, 60, 40, 50, 10, 20, 30, 50, 30, 20, 20, 0);
    }

    private static void postsInTurn() {
        RankBook x = scene();
        x.post(1, 3, 60);
        x.post(3, 2, 100);
        C.due("24: posts by numbers", x.sale(0, 0, 100, 0), 0);
        shares("24: posts by numbers", x, 40, 50, 10); // 3 has 60 and gives 50 to 2
        RankBook y = scene();
        y.post(3, 2, 100);
        y.post(1, 3, 60);
        C.due("24: the other way round", y.sale(0, 0, 100, 0), 0);
        shares("24: the other way round", y, 40, 0, 60);
        RankBook z = scene();
        z.split(3, 20); // 4, 5
        z.post(2, 5, 30);
        z.post(1, 4, 25);
        z.post(3, 2, 10);
        C.due("24: leaves that are not filled in order", z.sale(0, 0, 150, 0), 0);
        // 100 50 0; post 1: 2 has 20, 5 has 30; post 2: 1 has 80, 4 has 20;
        // post 3: x 10, y 10: 5 gives 10 and gets them back, 2 likewise
        shares("24: leaves that are not filled in order", z, 80, 20, 50, 20, 30);
        RankBook w = scene();
        w.split(3, 20); // 4, 5
        w.post(2, 5, 30);
        w.post(3, 1, 10);
        C.due("24: to and fro", w.sale(0, 0, 150, 0), 0);
        // 100 50 0; post 1: 2 has 20, 5 has 30; post 2: x 10, y 10: 5 gives 10, 4 gets 10
        shares("24: to and fro", w, 100, 20, 30, 10, 20);
    }

    private static void sell() {
        RankBook x = new RankBook();
        x.folio(2);
        x.enter(0, 1, 100, 100, 3);
        x.enter(0, 2, 200, 100, 1);
        x.day(365);
        x.since(100);
        C.done("25: sell(0, 0, 175, 5)", x, y -> y.sell(0, 0, 175, 5), 0);
        shares("25", x, 110, 60);
        sums("25: what it lacked", x, 0, 160);
        C.due("25: count(5)", x.count(5), 1);
        C.due("25: released", x.parcels(1), 2);
        C.due("25: released of all", x.parcels(2), 0);
        C.due("25: it lives", x.kind(2, 5), 1);
        C.due("25: interest runs from today", x.due(2), 160);
        x.day(365 + 365);
        C.due("25: a year later", x.due(2), 176);
        C.done("25: sold again", x, y -> y.sell(0, 0, 9, 0), 9);
        C.due("25: count(5) again", x.count(5), 2);
        RankBook z = new RankBook();
        z.folio(1);
        z.enter(0, 1, 100, 100, 1);
        z.day(365);
        C.due("25: sell for little", z.sell(0, 0, 5, 0), 0);
        C.due("25: no more than its sum was", z.sum(1), 100);
        RankBook w = scene();
        w.post(1, 3, 60);
        C.due("25: with a post", w.sell(0, 0, 120, 0), 0);
        sums("25: with a post", w, 60, 30, 20);
        RankBook o = scene();
        C.done("25: the owner's", o, y -> y.sell(0, 0, 300, 20), 50);
        C.due("25: of a torn parcel", o.sell(0, 2, 300, 20), -1);
        C.due("25: of a torn parcel: count(5)", o.count(5), 1);
    }

    private static void sellRents() {
        RankBook x = new RankBook();
        x.folio(2);
        x.enter(0, 4, 10, 0, 3);
        C.due("25: a rent", x.sell(0, 0, 50, 0), 0);
        C.due("25: just what it lacked", x.sum(1), 150);
        C.due("25: a rent that was touched", x.due(1), 150);
        x.day(10_000);
        C.due("25: a rent that was touched, later", x.due(1), 150);
        C.due("25: sold again", x.sell(0, 1, 100, 0), 0);
        C.due("25: what it lacked then", x.sum(1), 50);
        C.due("25: it lies nowhere", x.parcels(1), 0);
        C.due("25: it lives", x.kind(1, 5), 1);
        RankBook big = new RankBook();
        big.folio(1);
        big.enter(0, 4, MOST, 0, 1);
        C.due("25: the greatest rent", big.due(1), 20 * MOST);
        C.due("25: the greatest rent, sold", big.sell(0, 0, MOST, 0), 0);
        C.due("25: above the sums that are told", big.sum(1), 19 * MOST);
        RankBook off = new RankBook();
        off.folio(2);
        off.enter(0, 4, 10, 0, 3);
        off.sell(0, 0, 500, 0);
        C.due("25: a rent that was paid", off.sum(1), 0);
        C.due("25: a rent that was paid is due no more", off.due(1), 0);
        RankBook other = new RankBook();
        other.folio(2);
        other.enter(0, 4, 10, 0, 1);
        other.sell(0, 1, 500, 0);
        C.due("25: a sale elsewhere does not touch it", other.due(1), 200);
        other.sale(0, 0, 50, 0);
        C.due("24: nor one that is not carried out", other.due(1), 200);
    }

    private static void sellParts() {
        RankBook x = new RankBook();
        x.folio(2);
        x.enter(0, 2, 100, 100, 3);
        x.split(1, 40); // 2, 3
        x.hand(3, 15, 7); // 4, 5
        x.day(73);
        C.due("25: parts", x.sell(0, 0, 50, 0), 0);
        shares("25: parts", x, 50, 40, 10, 10, 0);
        sums("25: parts", x, 51, 0, 51, 36, 15);
        x.split(4, 6); // 6, 7
        C.due("25: those that come later are released", x.parcels(6), 2);
        C.due("25: and hold on the other parcel", x.rank(6, 1), 0);
    }

    /** Due are 100, then 50, then 80: each gets what is left, to the coin. */
    private static void coinByCoin() {
        for (long sum : new long[] {0, 1, 99, 100, 101, 149, 150, 151, 229, 230, 231, MOST}) {
            RankBook x = scene();
            long owner = x.sale(0, 0, sum, 0);
            long first = Math.min(sum, 100);
            long second = Math.min(sum - first, 50);
            long third = Math.min(sum - first - second, 80);
            shares("24: of " + sum, x, first, second, third);
            C.due("24: of " + sum + ", the owner's", owner, sum - first - second - third);
            x = scene();
            C.due("24: of " + sum + ", all costs", x.sale(0, 0, sum, sum), 0);
            shares("24: of " + sum + ", all costs", x, 0, 0, 0);
        }
    }

    /** A charge of 100 with 10 of interest: what it lacked, but no more than its sum was. */
    private static void soldCoinByCoin() {
        long[][] sumAndLeft = {{0, 100}, {1, 100}, {9, 100}, {10, 100}, {11, 99}, {109, 1}, {110, 0}, {111, 0}};
        for (long[] row : sumAndLeft) {
            RankBook x = new RankBook();
            x.folio(2);
            x.enter(0, 1, 100, 100, 3);
            x.day(365);
            C.due("25: for " + row[0], x.sell(0, 0, row[0], 0), Math.max(0, row[0] - 110));
            C.due("25: for " + row[0] + ", its sum", x.sum(1), row[1]);
            C.due("25: for " + row[0] + ", its due", x.due(1), row[1]);
            C.due("25: for " + row[0] + ", released", x.parcels(1), 2);
        }
    }

    /** A rent of 10, due 200: just what it lacked, that may be more than its sum was. */
    private static void rentCoinByCoin() {
        long[][] sumAndLeft = {{0, 200}, {1, 199}, {189, 11}, {190, 10}, {191, 9}, {199, 1}, {200, 0}, {201, 0}};
        for (long[] row : sumAndLeft) {
            RankBook x = new RankBook();
            x.folio(2);
            x.enter(0, 4, 10, 0, 3);
            C.due("25: a rent for " + row[0], x.sell(0, 0, row[0], 0), Math.max(0, row[0] - 200));
            C.due("25: a rent for " + row[0] + ", its sum", x.sum(1), row[1]);
            C.due("25: a rent for " + row[0] + ", its due", x.due(1), row[1]);
        }
    }

    /** 100 and 80 are due, the first gives way: up to the limit, what it has, what is due to B. */
    private static void limitCoinByCoin() {
        for (long limit : new long[] {0, 1, 39, 40, 41, 79, 80, 81, 99, 100, 101, MOST}) {
            for (long sum : new long[] {0, 1, 40, 79, 80, 81, 100, 140, 179, 180, 181}) {
                RankBook x = new RankBook();
                x.folio(1);
                x.enter(0, 1, 100, 0, 1);
                x.enter(0, 1, 80, 0, 1);
                x.post(1, 2, limit);
                long hasA = Math.min(sum, 100);
                long hasB = Math.min(sum - hasA, 80);
                long given = Math.min(hasA, Math.min(limit, 80));
                long back = Math.min(given, hasB);
                C.due("24: a post up to " + limit + " of " + sum, x.sale(0, 0, sum, 0), sum - hasA - hasB);
                shares("24: a post up to " + limit + " of " + sum, x, hasA - given + back, hasB - back + given);
            }
        }
    }

    private static void refusedSalesLeaveTheOwner() {
        long[][] refused = {
            {2, 0, 9, 0}, {0, 3, 9, 0}, {0, 2, 9, 0}, {0, 0, -1, 0}, {0, 0, MOST + 1, 0}, {0, 0, 9, 10},
        };
        for (long[] row : refused) {
            for (boolean sold : new boolean[] {false, true}) {
                RankBook x = scene();
                x.sale(0, 1, 170, 0);
                long answer = sold ? x.sell((int) row[0], (int) row[1], row[2], row[3])
                        : x.sale((int) row[0], (int) row[1], row[2], row[3]);
                C.due("24: refused", answer, -1);
                x.tell(1, 100);
                C.due("28: what the owner had before", x.check(70), 0);
            }
        }
    }

    private static void share() {
        RankBook x = scene();
        shares("26: ahead of any", x, 0, 0, 0);
        x.sale(0, 0, 120, 0);
        C.tellsAlone("26: share(1)", x, y -> y.share(1), 100);
        C.tellsAlone("26: share(0)", x, y -> y.share(0), 0);
        C.tellsAlone("26: share(4)", x, y -> y.share(4), 0);
        C.tellsAlone("26: share(-1)", x, y -> y.share(-1), 0);
        x.split(1, 30);
        shares("26: as its leaves were then", x, 100, 20, 0, 0, 0);
        x.pay(2, 50);
        shares("26: as it was then", x, 100, 20, 0);
        x.sale(0, 0, 120, 0);
        shares("26: the latest", x, 100, 0, 20, 30, 70);
        x.sell(0, 1, 50, 0);
        shares("26: the latest, sold", x, 50, 0, 0, 30, 20);
        x.strike(1);
        shares("26: struck since", x, 50, 0, 0, 30, 20);
    }

    private static void tellAndCheck() {
        RankBook x = scene();
        C.done("28: ahead of any sale", x, y -> y.check(0), 0);
        C.done("28: ahead of any sale, the owner", x, y -> y.check(5), -1);
        x.sale(0, 0, 300, 0);
        C.did("27: tell(1, 100)", x, y -> y.tell(1, 100));
        x.tell(2, 50);
        C.did("27: tell(3, 79)", x, y -> y.tell(3, 79));
        C.did("27: anew", x, y -> y.tell(3, 80));
        C.done("28: all is told", x, y -> y.check(70), 0);
        C.done("28: what was told goes", x, y -> y.check(70), 1);
        x.tell(1, 100);
        x.tell(3, 80);
        C.due("28: 0 of others", x.check(70), 2);
        x.tell(1, 100);
        x.tell(2, 50);
        x.tell(3, 80);
        C.due("28: the owner's alone", x.check(71), -1);
        x.tell(1, 100);
        x.tell(2, 51);
        x.tell(3, 81);
        C.due("28: the least whole", x.check(71), 2);
        C.due("28: it goes then, too", x.check(71), 1);
        partsAreNotAsked();
        C.denied("27: tell(0, 1)", SalesTest::offered, y -> y.tell(0, 1), 1);
        C.denied("27: tell(4, -1)", SalesTest::offered, y -> y.tell(4, -1), 1);
        C.denied("27: tell(1, -1)", SalesTest::offered, y -> y.tell(1, -1), 5);
        C.denied("27: tell(1, least)", SalesTest::offered, y -> y.tell(1, Long.MIN_VALUE), 5);
        RankBook z = scene();
        C.did("27: ahead of a sale", z, y -> y.tell(1, 30));
        C.did("27: nothing", z, y -> y.tell(2, 0));
        z.tell(1, -1);
        z.sell(0, 1, 30, 0);
        C.due("28: what was told stays behind a sale", z.check(0), 0);
    }

    private static void partsAreNotAsked() {
        RankBook x = scene();
        x.split(1, 40); // 4, 5
        x.sale(0, 0, 70, 0);
        x.tell(1, 70);
        C.did("27: of a part", x, y -> y.tell(4, 3));
        C.due("28: parts are not asked", x.check(0), 0);
        x.tell(1, 70);
        x.enter(1, 6, 5, 5, 1); // 6
        x.tell(6, 1);
        C.due("28: any whole is", x.check(0), 6);
    }
}
