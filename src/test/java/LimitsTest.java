import java.util.ArrayList;
import java.util.List;
import java.util.Random;

/**
 * No call throws or fails to end, for any arguments in any state: a book without anything, and
 * one that is as full as the document lets it be, are called with numbers of all sizes. What is
 * answered is not asked here.
 */
final class LimitsTest {
    private static final int[] INTS = {
        Integer.MIN_VALUE, -64, -1, 0, 1, 2, 5, 6, 7, 30, 31, 39, 40, 59, 60, 63, 64, 100, 101, 150,
        299, 300, 301, 1000, 36500, 36501, Integer.MAX_VALUE
    };
    private static final long[] LONGS = {
        Long.MIN_VALUE, -1, 0, 1, 3, 1000, 1L << 59, (1L << 60) - 1, 1L << 60, 999_999_999_999L,
        1_000_000_000_000L, Long.MAX_VALUE
    };
    private static final Random RANDOM = new Random(7);

    public static void main(String[] args) {
        List<RankBook> books = new ArrayList<>(List.of(new RankBook(), full(true), full(false)));
        books.add(deep());
        for (RankBook x : books) {
            for (int i = 0; i < 20_000; i++) {
                call(x, RANDOM.nextInt(32), any(), any(), any(), big(), big());
            }
        }
        System.out.println("LimitsTest: as due");
    }

    /** 40 folios, 300 entries, 100 posts, either all in a row or by one for all. */
    private static RankBook full(boolean inARow) {
        RankBook x = new RankBook();
        x.day(2000);
        for (int i = 0; i < 40; i++) {
            x.folio(60);
        }
        for (int i = 0; i < 300; i++) {
            x.since(2000 - i);
            x.enter(0, 1 + i % 5, 999_999_999_999L, 200, (1L << 60) - 1);
        }
        for (int i = 1; i <= 100; i++) {
            x.post(inARow ? i : 200, i + 1, 999_999_999_999L);
        }
        return x;
    }

    /** Parts of parts as deep as they go, released at every depth. */
    private static RankBook deep() {
        RankBook x = new RankBook();
        x.folio(60);
        x.enter(0, 3, 999_999_999_999L, 200, (1L << 60) - 1);
        x.owe(1, 999_999_999_999L);
        int at = 1;
        for (int i = 0; i < 149; i++) {
            at = i % 2 == 0 ? x.split(at, 1000) + 1 : x.hand(at, 1000, 5) - 1;
            x.release(at, i % 60);
        }
        return x;
    }

    private static int any() {
        return INTS[RANDOM.nextInt(INTS.length)];
    }

    private static long big() {
        return LONGS[RANDOM.nextInt(LONGS.length)];
    }

    private static void call(RankBook x, int which, int a, int b, int c, long s, long t) {
        switch (which) {
            case 0 -> x.folio(a);
            case 1 -> x.tear(a, RANDOM.nextInt(50) == 0 ? b : -1);
            case 2 -> x.day(RANDOM.nextInt(50) == 0 ? a : -1);
            case 3 -> x.since(a);
            case 4 -> x.enter(a, b, s, c, t);
            case 5 -> x.claim(a, b, c);
            case 6 -> x.owe(a, s);
            case 7 -> x.pay(a, s);
            case 8 -> x.paper(a, s > 0);
            case 9 -> x.split(a, s);
            case 10 -> x.hand(a, s, b);
            case 11 -> x.post(a, b, s);
            case 12 -> x.undo(RANDOM.nextInt(20) == 0 ? a : -1);
            case 13 -> x.release(a, b);
            case 14 -> x.strike(RANDOM.nextInt(50) == 0 ? a : -1);
            case 15 -> x.keep(a, b);
            case 16 -> x.many(a, b);
            case 17 -> x.list(a, b, c);
            case 18 -> x.rank(a, b);
            case 19 -> x.why(a, b);
            case 20 -> x.as(a, b, c, any());
            case 21 -> x.choose(a);
            case 22 -> x.sale(a, b, s, t);
            case 23 -> x.sell(a, RANDOM.nextInt(20) == 0 ? b : -1, s, t);
            case 24 -> x.share(a);
            case 25 -> x.tell(a, s);
            case 26 -> x.check(s);
            case 27 -> x.circle(a);
            case 28 -> x.due(a);
            case 29 -> x.kind(a, b);
            case 30 -> x.sum(a);
            default -> x.parcels(a);
        }
    }
}
