import java.util.ArrayList;
import java.util.List;
import java.util.function.Function;

/**
 * Looks at a book from all sides and tells what is seen as a text: two books in the same state
 * tell the same. Some of the probes change the book (what was told, papers and undone posts show
 * only by later acts), so that each of them wants a book of its own.
 */
final class Probes {
    private static final int ENTRIES = 14;
    private static final int FOLIOS = 2;
    private static final int PARCELS = 3;

    private Probes() { }

    static List<Function<RankBook, String>> all(boolean withCircles) {
        List<Function<RankBook, String>> probes = new ArrayList<>(List.of(
                Probes::counts, Probes::entries, Probes::orders, Probes::ranks, Probes::ordersOfOtherDays,
                Probes::undoing, Probes::claiming, Probes::handing, Probes::striking, Probes::adding));
        for (int n = 1; n <= 4; n++) {
            int whole = n;
            probes.add(x -> told(x, whole));
        }
        if (withCircles) {
            probes.add(Probes::circles);
        }
        return probes;
    }

    /** A full book has but few of its 512 calls left. */
    private static int entriesOf(RankBook x) {
        return x.count(2) > 100 ? 4 : Math.min(ENTRIES, x.count(2));
    }

    private static String counts(RankBook x) {
        StringBuilder text = new StringBuilder("counts");
        for (int what = 0; what <= 5; what++) {
            text.append(' ').append(x.count(what));
        }
        return text.toString();
    }

    private static String circles(RankBook x) {
        StringBuilder text = new StringBuilder("circles ").append(x.count(6));
        for (int i = 0; i < 6; i++) {
            text.append(' ').append(x.circle(i));
        }
        return text.toString();
    }

    private static String entries(RankBook x) {
        StringBuilder text = new StringBuilder("entries");
        for (int e = 1; e <= entriesOf(x); e++) {
            text.append(" | ").append(x.sum(e)).append(' ').append(x.due(e)).append(' ')
                    .append(x.parcels(e)).append(' ').append(x.share(e));
            for (int what = 0; what <= 9; what++) {
                text.append(' ').append(x.kind(e, what));
            }
        }
        return text.toString();
    }

    private static String orders(RankBook x) {
        StringBuilder text = new StringBuilder("orders");
        for (int f = 0; f < FOLIOS; f++) {
            for (int p = 0; p < PARCELS; p++) {
                text.append(" | ").append(x.many(f, p)).append(" by ").append(x.status()).append(':');
                for (int i = 0; i < 8; i++) {
                    text.append(' ').append(x.list(f, p, i));
                }
            }
        }
        return text.toString();
    }

    private static String ranks(RankBook x) {
        StringBuilder text = new StringBuilder("ranks");
        for (int e = 1; e <= entriesOf(x); e++) {
            for (int p = 0; p < PARCELS; p++) {
                text.append(' ').append(x.rank(e, p)).append('/').append(x.why(e, p));
            }
        }
        return text.toString();
    }

    private static String ordersOfOtherDays(RankBook x) {
        StringBuilder text = new StringBuilder("orders of other days");
        int today = x.count(0);
        int[] days = {0, today / 2, Math.max(0, today - 1), today};
        for (int day : days) {
            for (int known : days) {
                text.append(" |");
                for (int i = 0; i < 3; i++) {
                    text.append(' ').append(x.as(0, day, known, i));
                }
            }
        }
        return text.toString();
    }

    private static String undoing(RankBook x) {
        StringBuilder text = new StringBuilder("undoing");
        for (int p = 1; p <= 6; p++) {
            text.append(' ').append(x.undo(p)).append(x.status());
        }
        return text.toString();
    }

    private static String claiming(RankBook x) {
        StringBuilder text = new StringBuilder("claiming");
        for (int e = 1; e <= entriesOf(x); e++) {
            text.append(' ').append(x.claim(e, 0, 3)).append(x.status());
        }
        return text.append(" then ").append(entries(x)).toString();
    }

    private static String handing(RankBook x) {
        StringBuilder text = new StringBuilder("handing");
        for (int e = 1; e <= entriesOf(x); e++) {
            text.append(' ').append(x.hand(e, 0, 1)).append('/').append(x.status());
        }
        return text.toString();
    }

    private static String striking(RankBook x) {
        StringBuilder text = new StringBuilder("striking");
        for (int e = 1; e <= entriesOf(x); e++) {
            text.append(' ').append(x.strike(e)).append(x.status());
        }
        return text.append(" then ").append(ordersOfOtherDays(x)).toString();
    }

    /** What is made next, with its date, and how a sale goes with it. */
    private static String adding(RankBook x) {
        StringBuilder text = new StringBuilder("adding ").append(x.folio(1));
        int made = x.enter(0, 1, 7, 0, 1);
        text.append(' ').append(made).append(' ').append(x.kind(made, 6)).append(' ').append(x.kind(made, 7));
        text.append(' ').append(x.post(1, made, 5)).append('/').append(x.status());
        text.append(" sold for ").append(x.sell(0, 0, 77, 0)).append(", ");
        return text.append(entries(x)).toString();
    }

    /** The right shares are told of all others, so that check() is about what was told of this one. */
    private static String told(RankBook x, int whole) {
        for (int e = 1; e <= entriesOf(x); e++) {
            if (e != whole && x.share(e) > 0) {
                x.tell(e, x.share(e));
            }
        }
        return "told of " + whole + ": " + x.check(0) + " by " + x.status();
    }
}
