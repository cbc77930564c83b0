import java.util.Random;

/**
 * Random runs of calls, each answered by the program and by the plain model of the document;
 * the seeds are fixed, so that every run of this test is the same.
 */
final class ModelTest {
    private static final int RUNS = 6000;
    /** As many as the document promises anything about. */
    private static final int MOST_CALLS = 512;
    private static final int[] WILD = {
        Integer.MIN_VALUE, -1, 0, 1, 31, 32, 59, 60, 61, 63, 64, 200, 201, 300, 301, 1000, 1001,
        36500, 36501, Integer.MAX_VALUE
    };
    private static final long[] WILD_SUMS = {
        Long.MIN_VALUE, -1, 0, 1, 999_999_999_999L, 1_000_000_000_000L, Long.MAX_VALUE
    };

    private final Random random;
    private final RankBook book = new RankBook();
    private final Model model = new Model();
    private final int maxFolios;
    private final int maxParcels;
    private final int maxWholes;
    private final long scale;
    private final boolean wild;
    private final boolean manyPosts;
    private final int kinds;
    private int calls;
    private String call;
    private long got;
    private long want;

    private ModelTest(long seed) {
        random = new Random(seed);
        maxFolios = 1 + random.nextInt(random.nextInt(10) == 0 ? 50 : 2);
        maxParcels = random.nextInt(5) == 0 ? 60 : 1 + random.nextInt(4);
        maxWholes = random.nextInt(10) == 0 ? 310 : 3 + random.nextInt(20);
        scale = random.nextInt(4) == 0 ? 1_000_000_000_000L : 1 + random.nextInt(2000);
        wild = random.nextInt(3) == 0;
        manyPosts = random.nextInt(4) == 0;
        kinds = manyPosts ? 5 : 6;
    }

    public static void main(String[] args) {
        int wrong = 0;
        for (int seed = 1; seed <= RUNS && wrong < 5; seed++) {
            wrong += new ModelTest(seed).runs(seed) ? 0 : 1;
        }
        System.out.println("ModelTest: " + (wrong == 0 ? "as due" : wrong + " runs are not as due"));
        if (wrong != 0) {
            System.exit(1);
        }
    }

    private boolean runs(int seed) {
        // the longest step is a check() behind as many tell() as there are entries
        while (calls + model.entries.size() + 3 < MOST_CALLS) {
            one();
            calls++;
            int status = book.status();
            if (got != want || status != model.status) {
                System.out.println("seed " + seed + " call " + calls + ": " + call + " answered " + got
                        + " status " + status + ", due is " + want + " status " + model.status);
                return false;
            }
        }
        return true;
    }

    private int number(int from, int to) {
        if (wild && random.nextInt(12) == 0) {
            return WILD[random.nextInt(WILD.length)];
        }
        return from + random.nextInt(Math.max(1, to - from + 1));
    }

    private long money(long most) {
        if (wild && random.nextInt(12) == 0) {
            return WILD_SUMS[random.nextInt(WILD_SUMS.length)];
        }
        int pick = random.nextInt(12);
        if (pick == 0) {
            return 0;
        }
        if (pick == 1) {
            return most;
        }
        return pick == 2 ? most + 1 : (long) (random.nextDouble() * Math.max(1, most + 1));
    }

    private int entry() {
        int n = model.entries.size();
        return random.nextInt(30) == 0 ? number(0, n + 1) : number(1, n);
    }

    private int ofKind(int kind) {
        for (int i = 0; i < 8; i++) {
            int n = entry();
            if (model.kind(n, 0) == kind) {
                return n;
            }
        }
        return entry();
    }

    private int folio() {
        int n = model.folios.size();
        return random.nextInt(30) == 0 ? number(-1, n) : number(0, n - 1);
    }

    private int parcel(int folio) {
        int n = folio >= 0 && folio < model.folios.size() ? model.folios.get(folio) : 3;
        return random.nextInt(30) == 0 ? number(-1, n) : number(0, n - 1);
    }

    private int parcelOf(int entry) {
        return parcel(model.kind(entry, 1));
    }

    private void answer(String text, long gotNow, long wantNow) {
        calls++;
        call = text;
        got = gotNow;
        want = wantNow;
    }

    private void answer(String text, boolean gotNow, boolean wantNow) {
        answer(text, gotNow ? 1 : 0, wantNow ? 1 : 0);
    }

    private void one() {
        if (model.folios.isEmpty() && random.nextInt(5) != 0) {
            newFolio();
        } else if (model.entries.isEmpty() && random.nextInt(5) != 0) {
            newEntry();
        } else {
            any(random.nextInt(100));
        }
    }

    private void any(int pick) {
        if (pick < 2 && model.folios.size() < maxFolios) {
            newFolio();
        } else if (pick < 18 && model.entries.size() < maxWholes) {
            newEntry();
        } else if (pick < 24) {
            days();
        } else if (pick < 48) {
            change(manyPosts && random.nextBoolean() ? 6 : random.nextInt(12));
        } else if (pick < 55) {
            sales();
        } else if (pick < 78) {
            order(random.nextInt(7));
        } else {
            telling(random.nextInt(8));
        }
    }

    private void newFolio() {
        int n = random.nextInt(20) == 0 ? number(-1, 62) : number(1, maxParcels);
        answer("folio(" + n + ")", book.folio(n), model.folio(n));
    }

    private void newEntry() {
        int f = folio();
        int kind = random.nextInt(30) == 0 ? number(-1, 8) : number(1, kinds);
        long sum = money(scale);
        boolean dayRate = kind == 4 || kind == 6;
        int rate = random.nextInt(4) == 0 ? 0 : number(0, dayRate ? 400 + random.nextInt(9000) : 201);
        long all = f >= 0 && f < model.folios.size() ? (1L << model.folios.get(f)) - 1 : 7;
        long mask = random.nextInt(25) == 0 ? random.nextLong() : random.nextLong() & all;
        if (random.nextBoolean()) {
            mask |= all;
        }
        if (f >= 0 && f < model.folios.size() && random.nextInt(10) != 0) {
            mask &= ~model.torn.get(f);
        }
        answer("enter(" + f + ", " + kind + ", " + sum + ", " + rate + ", " + mask + ")",
                book.enter(f, kind, sum, rate, mask), model.enter(f, kind, sum, rate, mask));
    }

    private void days() {
        if (random.nextInt(3) == 0) {
            int d = number(model.today - 1, model.today + (random.nextInt(3) == 0 ? 900 : 20));
            answer("day(" + d + ")", book.day(d), model.day(d));
        } else {
            int d = number(random.nextInt(20) == 0 ? -2 : Math.max(0, model.today - 40),
                    model.today + (random.nextInt(20) == 0 ? 1 : 0));
            answer("since(" + d + ")", book.since(d), model.since(d));
        }
    }

    private void change(int pick) {
        int e = entry();
        switch (pick) {
            case 0 -> {
                int n = ofKind(5);
                int from = number(0, model.today + 50);
                int years = number(0, 31);
                answer("claim(" + n + ", " + from + ", " + years + ")",
                        book.claim(n, from, years), model.claim(n, from, years));
            }
            case 1 -> {
                int n = ofKind(3);
                Model.E found = model.e(n);
                long sum = money(found == null ? 5 : found.whole().entered / (1 + random.nextInt(3)));
                answer("owe(" + n + ", " + sum + ")", book.owe(n, sum), model.owe(n, sum));
            }
            case 2 -> {
                long sum = money(model.sum(e) / 3);
                answer("pay(" + e + ", " + sum + ")", book.pay(e, sum), model.pay(e, sum));
            }
            case 3 -> {
                boolean there = random.nextInt(3) != 0;
                answer("paper(" + e + ", " + there + ")", book.paper(e, there), model.paper(e, there));
            }
            case 4 -> {
                long sum = money(model.sum(e));
                answer("split(" + e + ", " + sum + ")", book.split(e, sum), model.split(e, sum));
            }
            case 5 -> {
                long sum = money(model.sum(e));
                int owner = random.nextInt(20) == 0 ? number(-1, 1002) : number(1, 1000);
                answer("hand(" + e + ", " + sum + ", " + owner + ")",
                        book.hand(e, sum, owner), model.hand(e, sum, owner));
            }
            case 6, 7 -> {
                int b = entry();
                long limit = random.nextInt(10) == 0 ? money(Model.MOST) : money(scale);
                answer("post(" + e + ", " + b + ", " + limit + ")",
                        book.post(e, b, limit), model.post(e, b, limit));
            }
            case 8 -> {
                int p = number(random.nextInt(9) == 0 ? 0 : 1, model.posts.size() + random.nextInt(2));
                answer("undo(" + p + ")", book.undo(p), model.undo(p));
            }
            case 9 -> {
                int p = parcelOf(e);
                answer("release(" + e + ", " + p + ")", book.release(e, p), model.release(e, p));
            }
            case 10 -> {
                if (random.nextInt(4) == 0) {
                    answer("strike(" + e + ")", book.strike(e), model.strike(e));
                } else if (random.nextInt(8) == 0) {
                    int f = folio();
                    int p = parcel(f);
                    answer("tear(" + f + ", " + p + ")", book.tear(f, p), model.tear(f, p));
                } else {
                    answer("count(3)", book.count(3), model.count(3));
                }
            }
            default -> {
                int c = ofKind(6);
                answer("keep(" + c + ", " + e + ")", book.keep(c, e), model.keep(c, e));
            }
        }
    }

    private void sales() {
        int f = folio();
        int p = parcel(f);
        long sum = money(Math.min(Model.MOST, scale * (1 + random.nextInt(12))));
        long costs = random.nextInt(3) == 0 ? money(sum / 4) : 0;
        String rest = "(" + f + ", " + p + ", " + sum + ", " + costs + ")";
        if (random.nextInt(manyPosts ? 9 : 3) == 0) {
            answer("sell" + rest, book.sell(f, p, sum, costs), model.sell(f, p, sum, costs, true));
        } else {
            answer("sale" + rest, book.sale(f, p, sum, costs), model.sell(f, p, sum, costs, false));
        }
        int step = 1 + model.entries.size() / 20;
        for (int n = 0; n <= model.entries.size() + 1 && got == want; n += step) {
            answer("share(" + n + ") after it", book.share(n), model.share(n));
        }
    }

    private void order(int pick) {
        int e = entry();
        int f = folio();
        int p = parcel(f);
        int i = number(random.nextInt(9) == 0 ? -1 : 0, 6);
        int day = number(Math.max(0, model.today - 60), model.today + (random.nextInt(20) == 0 ? 1 : 0));
        switch (pick) {
            case 0 -> answer("many(" + f + ", " + p + ")", book.many(f, p), model.many(f, p));
            case 1 -> answer("list(" + f + ", " + p + ", " + i + ")",
                    book.list(f, p, i), model.list(f, p, i));
            case 2 -> answer("rank(" + e + ", " + p + ")", book.rank(e, p), model.rank(e, p));
            case 3 -> answer("why(" + e + ", " + p + ")", book.why(e, p), model.why(e, p));
            case 4 -> answer("choose(" + f + ")", book.choose(f), model.choose(f));
            default -> {
                int q = parcel(model.chosen);
                int known = number(day, model.today);
                answer("as(" + q + ", " + day + ", " + known + ", " + i + ")",
                        book.as(q, day, known, i), model.as(q, day, known, i));
            }
        }
    }

    private void telling(int pick) {
        int e = entry();
        switch (pick) {
            case 0 -> {
                long sum = random.nextInt(3) == 0 ? money(scale) : model.share(e);
                answer("tell(" + e + ", " + sum + ")", book.tell(e, sum), model.tell(e, sum));
            }
            case 1 -> {
                if (random.nextBoolean()) {
                    tellAll();
                }
                long owner = random.nextInt(3) == 0 ? money(scale) : model.owner;
                answer("check(" + owner + ")", book.check(owner), model.check(owner));
            }
            case 2 -> {
                int i = number(-1, 5);
                answer("circle(" + i + ")", book.circle(i), model.circle(i));
            }
            case 3 -> answer("due(" + e + ")", book.due(e), model.due(e));
            case 4 -> {
                int what = number(-1, 10);
                answer("kind(" + e + ", " + what + ")", book.kind(e, what), model.kind(e, what));
            }
            case 5 -> answer("sum(" + e + ")", book.sum(e), model.sum(e));
            case 6 -> answer("parcels(" + e + ")", book.parcels(e), model.parcels(e));
            default -> {
                int what = number(-1, 7);
                answer("count(" + what + ")", book.count(what), model.count(what));
            }
        }
    }

    private void tellAll() {
        for (int n = 1; n <= model.entries.size(); n++) {
            if (model.share(n) != 0 && random.nextInt(20) != 0) {
                calls++;
                book.tell(n, model.share(n));
                model.tell(n, model.share(n));
            }
        }
    }
}
