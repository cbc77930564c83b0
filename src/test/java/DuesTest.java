/** Promise 30, with what 'Terms' says of DUE: a day, a coin and a year on either side of each bound. */
final class DuesTest {
    private static final long MOST = 999_999_999_999L;
    private static final Checks C = new Checks("DuesTest");

    public static void main(String[] args) {
        daysOfInterest();
        yearsOfClaims();
        interestIsCut();
        interestAnew();
        tops();
        yearsOfRents();
        rentsInTime();
        nothingIsDue();
        greatest();
        leaves();
        C.finish();
    }

    private static RankBook one(int kind, long sum, int rate) {
        RankBook x = new RankBook();
        x.folio(2);
        x.enter(0, kind, sum, rate, 3);
        return x;
    }

    /** 365,000,000 at 1 thousandth: 1,000 a day; 730 days at most. */
    private static void daysOfInterest() {
        for (int kind : new int[] {1, 2, 3, 5}) {
            RankBook x = one(kind, kind == 3 ? MOST : 365_000_000, 1);
            if (kind == 3) {
                x.owe(1, 365_000_000);
            }
            for (int day : new int[] {0, 1, 364, 365, 366, 729, 730, 731, 36500}) {
                x.day(day);
                C.due("30: kind " + kind + ", " + day + " days", x.due(1),
                        365_000_000 + 1000L * Math.min(day, 730));
            }
        }
    }

    private static void yearsOfClaims() {
        for (int years : new int[] {1, 2, 3, 29, 30}) {
            RankBook x = one(5, 365_000_000, 1);
            x.claim(1, 36500, years);
            for (int day : new int[] {0, 1, 365 * years - 1, 365 * years, 365 * years + 1, 36500}) {
                if (day >= x.count(0)) {
                    x.day(day);
                    C.due("30: of " + years + " years, " + day + " days", x.due(1),
                            365_000_000 + 1000L * Math.min(day, 365 * years));
                }
            }
        }
    }

    /** On day 1, at 1 thousandth, 365,000 give a coin. */
    private static void interestIsCut() {
        long[][] sumAndInterest = {{1, 0}, {364_999, 0}, {365_000, 1}, {365_001, 1}, {729_999, 1}, {730_000, 2}};
        for (long[] row : sumAndInterest) {
            RankBook x = one(1, row[0], 1);
            x.day(1);
            C.due("30: cut, of " + row[0], x.due(1), row[0] + row[1]);
        }
        RankBook free = one(1, MOST, 0);
        free.day(36500);
        C.due("30: at no rate", free.due(1), MOST);
        RankBook dear = one(1, 1000, 200);
        dear.day(365);
        C.due("30: at the greatest rate", dear.due(1), 1200);
    }

    /** Interest runs from the date at first, behind a sale from its day, whatever since() told. */
    private static void interestAnew() {
        RankBook x = new RankBook();
        x.folio(2);
        x.day(100);
        x.since(99);
        x.enter(0, 1, 365_000_000, 1, 3);
        C.due("30: since its date", x.due(1), 365_001_000);
        x.day(200);
        x.since(150);
        x.sell(0, 0, 101_000, 0);
        C.due("25: sold, what it lacked", x.sum(1), 365_000_000);
        C.due("25: sold, on the day itself", x.due(1), 365_000_000);
        x.day(201);
        C.due("25: sold, a day later", x.due(1), 365_001_000);
        x.day(930);
        C.due("25: sold, 730 days later", x.due(1), 365_730_000);
        x.day(931);
        C.due("25: sold, 731 days later", x.due(1), 365_730_000);
    }

    /** A top of 110 at 10 % a year: what is owed below, at and above 100. */
    private static void tops() {
        long[][] owedAndDue = {{0, 0}, {99, 108}, {100, 110}, {101, 110}, {109, 110}, {110, 110}};
        for (long[] row : owedAndDue) {
            RankBook x = one(3, 110, 100);
            x.owe(1, row[0]);
            C.due("30: a top that owes " + row[0] + ", at first", x.due(1), row[0]);
            x.day(365);
            C.due("30: a top that owes " + row[0], x.due(1), row[1]);
        }
        RankBook x = one(3, 110, 100);
        x.owe(1, 110);
        x.split(1, 105); // 2, 3
        x.day(365);
        C.due("30: the first leaf takes the top", x.due(2), 110);
        C.due("30: nothing is due to the second", x.due(3), 0);
        C.due("30: together", x.due(1), 110);
    }

    private static void yearsOfRents() {
        int[][] lastDayAndYears = {
            {0, 20}, {1, 0}, {364, 0}, {365, 1}, {366, 1}, {729, 1}, {730, 2}, {19 * 365, 19},
            {20 * 365 - 1, 19}, {20 * 365, 20}, {20 * 365 + 1, 20}, {21 * 365, 20}, {36500, 20},
        };
        for (int[] row : lastDayAndYears) {
            C.due("30: a rent to day " + row[0], one(4, 10, row[0]).due(1), 10L * row[1]);
        }
    }

    private static void rentsInTime() {
        RankBook x = one(4, 10, 1000);
        int[][] dayAndYears = {{269, 2}, {270, 2}, {271, 1}, {635, 1}, {636, 0}, {999, 0}, {1000, 0}, {1001, 0}, {36500, 0}};
        for (int[] row : dayAndYears) {
            x.day(row[0]);
            C.due("30: a rent to day 1000, on day " + row[0], x.due(1), 10L * row[1]);
        }
        RankBook touched = one(4, 10, 1000);
        touched.sell(0, 0, 13, 0);
        touched.day(1001);
        C.due("30: one that a sale touched, behind its last day", touched.due(1), 7);
        RankBook over = one(4, 10, 1);
        over.day(2);
        C.due("25: one of which nothing is due", over.sell(0, 0, 50, 0), 50);
        C.due("25: lacked nothing", over.sum(1), 0);
    }

    private static void nothingIsDue() {
        for (int kind = 1; kind <= 6; kind++) {
            RankBook x = one(kind, 0, 200);
            x.day(5);
            C.due("30: kind " + kind + ", of nothing", x.due(1), 0);
            C.due("24: kind " + kind + ", of nothing", x.sale(0, 0, 9, 0), 9);
        }
        RankBook caution = one(6, MOST, 36500);
        caution.day(365);
        C.due("30: a caution", caution.due(1), 0);
        C.due("24: a caution gets nothing", caution.sale(0, 0, 9, 0), 9);
        C.due("26: a caution's share", caution.share(1), 0);
    }

    /** None of the products may leave the longs. */
    private static void greatest() {
        RankBook x = new RankBook();
        x.folio(1);
        for (int kind = 1; kind <= 5; kind++) {
            x.enter(0, kind, MOST, kind == 4 ? 0 : 200, 1);
        }
        x.owe(3, MOST);
        x.claim(5, 0, 30);
        x.day(36500);
        C.due("30: the greatest charge", x.due(1), MOST + 399_999_999_999L);
        C.due("30: the greatest order", x.due(2), MOST + 399_999_999_999L);
        C.due("30: the greatest top", x.due(3), MOST);
        C.due("30: the greatest rent", x.due(4), 20 * MOST);
        C.due("30: the greatest claim", x.due(5), 7 * MOST);
    }

    /** Cutting neither loses a coin nor makes one: the leaves together are the whole. */
    private static void leaves() {
        RankBook x = one(1, 100, 100);
        int at = 1;
        for (int i = 0; i < 9; i++) {
            at = x.split(at, 5) + 1;
        }
        x.day(365);
        long together = 0;
        for (int e = 2; e <= x.count(2); e++) {
            together += x.kind(e, 8) == 0 ? x.due(e) : 0;
        }
        C.due("30: of 10 leaves", together, 110);
        C.due("30: the first leaf", x.due(2), 5); // 5.5
        C.due("30: the second leaf", x.due(4), 6); // 11.0 - 5
        C.due("30: a part with parts", x.due(3), 105);
        C.due("30: the whole", x.due(1), 110);
    }
}
