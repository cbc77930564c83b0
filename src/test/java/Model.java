import java.math.BigInteger;
import java.util.ArrayDeque;
import java.util.ArrayList;
import java.util.Arrays;
import java.util.Comparator;
import java.util.HashMap;
import java.util.LinkedHashMap;
import java.util.List;
import java.util.Map;

/**
 * The document once more, as slowly and plainly as it can be written: acts are kept in lists
 * and everything is worked out anew from them. ModelTest compares the program with it.
 */
final class Model {
    static final long MOST = 999_999_999_999L;

    static final class E {
        int number;
        int folio;
        int kind;
        long entered;
        int rate;
        long mask;
        int dated;
        int known;
        E parent;
        List<E> parts = new ArrayList<>();
        int owner;
        long sum;
        int interest;
        boolean touched;
        boolean paper = true;
        int[] claim; // from, years, dated, known
        int[] struck; // dated, known
        int[] keeps; // the other's number, dated, known

        E whole() {
            return parent == null ? this : parent.whole();
        }

        List<E> leaves() {
            List<E> all = new ArrayList<>();
            if (parts.isEmpty()) {
                all.add(this);
            }
            for (E part : parts) {
                all.addAll(part.leaves());
            }
            return all;
        }

        boolean within(E top) {
            return this == top || parent != null && parent.within(top);
        }
    }

    record P(int number, E a, E b, long limit, int dated, int known, int[] undone) { }

    record Release(E entry, int parcel, int dated, int known) { }

    record Place(int group, int dated, int number, E whole, long limit) { }

    record At(int day, int known) {
        boolean counts(int dated, int knownFrom) {
            return dated <= day && knownFrom <= known;
        }
    }

    int today;
    int since = -1;
    int status;
    int chosen;
    int sold;
    int circles;
    long owner;
    List<Integer> folios = new ArrayList<>();
    List<Long> torn = new ArrayList<>();
    List<E> entries = new ArrayList<>();
    List<P> posts = new ArrayList<>();
    List<int[]> undone = new ArrayList<>();
    List<Release> releases = new ArrayList<>();
    List<Integer> circle = new ArrayList<>();
    Map<Integer, Long> shares = new HashMap<>();
    Map<Integer, Long> told = new HashMap<>();

    int dated() {
        return since >= 0 ? since : today;
    }

    At now() {
        return new At(today, today);
    }

    E e(int n) {
        return n >= 1 && n <= entries.size() ? entries.get(n - 1) : null;
    }

    boolean set(int s) {
        status = s;
        return s == 0;
    }

    boolean lives(E e, At at) {
        E w = e.whole();
        boolean gone = w.struck != null && at.counts(w.struck[0], w.struck[1]);
        return at.counts(w.dated, w.known) && !gone;
    }

    boolean released(E leaf, int parcel, At at) {
        for (Release r : releases) {
            if (r.parcel == parcel && leaf.within(r.entry) && at.counts(r.dated, r.known)) {
                return true;
            }
        }
        return false;
    }

    boolean lies(E e, int parcel, At at) {
        E w = e.whole();
        if (parcel < 0 || parcel >= folios.get(w.folio)) {
            return false;
        }
        long bit = 1L << parcel;
        if ((w.mask & bit) == 0 || (torn.get(w.folio) & bit) != 0 || !lives(e, at)) {
            return false;
        }
        return e.leaves().stream().anyMatch(leaf -> !released(leaf, parcel, at));
    }

    int land(int folio, int parcel) {
        if (folio < 0 || folio >= folios.size()) {
            return 1;
        }
        if (parcel < 0 || parcel >= folios.get(folio)) {
            return 2;
        }
        return (torn.get(folio) & 1L << parcel) != 0 ? 3 : 0;
    }

    long due(E w, long s) {
        if (w.kind == 6) {
            return 0;
        }
        if (w.kind == 4) {
            long years = 20;
            if (w.rate > 0) {
                years = today > w.rate ? 0 : Math.min(20, (w.rate - today) / 365);
            }
            return w.touched ? s : s * years;
        }
        int most = w.kind == 5 && w.claim != null ? 365 * w.claim[1] : 730;
        int days = Math.min(today - w.interest, most);
        BigInteger interest = BigInteger.valueOf(s).multiply(BigInteger.valueOf(w.rate))
                .multiply(BigInteger.valueOf(days)).divide(BigInteger.valueOf(365_000));
        long all = s + interest.longValueExact();
        return w.kind == 3 ? Math.min(all, w.entered) : all;
    }

    Map<E, Long> dues(E w) {
        Map<E, Long> map = new LinkedHashMap<>();
        List<E> leaves = w.leaves();
        for (int k = 1; k <= leaves.size(); k++) {
            long with = due(w, leaves.subList(0, k).stream().mapToLong(l -> l.sum).sum());
            long without = due(w, leaves.subList(0, k - 1).stream().mapToLong(l -> l.sum).sum());
            map.put(leaves.get(k - 1), with - without);
        }
        return map;
    }

    List<Place> places(int folio, int parcel, At at) {
        List<Place> all = new ArrayList<>();
        for (E w : entries) {
            if (w.parent != null || w.folio != folio || w.kind == 6 || !lies(w, parcel, at)) {
                continue;
            }
            boolean ahead = w.kind == 5 && w.claim != null && at.counts(w.claim[2], w.claim[3])
                    && w.claim[0] <= at.day;
            all.add(new Place(ahead ? 0 : 1, w.dated, w.number, w, Long.MAX_VALUE));
            if (w.keeps != null && at.counts(w.keeps[1], w.keeps[2])) {
                E c = e(w.keeps[0]);
                if (lies(c, parcel, at)) {
                    all.add(new Place(1, c.dated, c.number, w, c.sum));
                }
            }
        }
        all.sort(Comparator.comparingInt(Place::group).thenComparingInt(Place::dated)
                .thenComparingInt(Place::number));
        return all;
    }

    boolean counts(P p, int folio, int parcel, At at) {
        int[] u = undone.get(p.number - 1);
        boolean gone = u != null && at.counts(u[0], u[1]);
        return p.a.whole().folio == folio && at.counts(p.dated, p.known) && !gone
                && lies(p.a, parcel, at) && lies(p.b, parcel, at);
    }

    /** The order as wholes; moves[n] is by how many posts whole n changed places. */
    List<E> order(int folio, int parcel, At at, int[] moves) {
        List<E> all = new ArrayList<>();
        for (Place place : places(folio, parcel, at)) {
            if (!all.contains(place.whole)) {
                all.add(place.whole);
            }
        }
        for (P p : posts) {
            if (!counts(p, folio, parcel, at)) {
                continue;
            }
            int i = all.indexOf(p.a.whole());
            int j = all.indexOf(p.b.whole());
            if (i < j) {
                E kept = all.get(i);
                all.set(i, all.get(j));
                all.set(j, kept);
                moves[all.get(i).number]++;
                moves[all.get(j).number]++;
            }
        }
        return all;
    }

    int folio(int parcels) {
        if (!set(parcels < 1 || parcels > 60 ? 5 : folios.size() == 40 ? 10 : 0)) {
            return -1;
        }
        folios.add(parcels);
        torn.add(0L);
        return folios.size() - 1;
    }

    boolean tear(int folio, int parcel) {
        if (!set(land(folio, parcel))) {
            return false;
        }
        torn.set(folio, torn.get(folio) | 1L << parcel);
        return true;
    }

    boolean day(int d) {
        if (!set(d > 36500 ? 5 : d < today ? 8 : 0)) {
            return false;
        }
        today = d;
        since = -1;
        return true;
    }

    boolean since(int d) {
        if (!set(d < 0 || d > today ? 5 : 0)) {
            return false;
        }
        since = d;
        return true;
    }

    int enterStatus(int folio, int kind, long sum, int rate, long parcels) {
        if (folio < 0 || folio >= folios.size()) {
            return 1;
        }
        if (parcels == 0) {
            return 2;
        }
        for (int p = folios.get(folio); p < 64; p++) {
            if ((parcels & 1L << p) != 0) {
                return 2;
            }
        }
        if ((parcels & torn.get(folio)) != 0) {
            return 3;
        }
        boolean days = kind == 4 || kind == 6;
        if (kind < 1 || kind > 6 || sum < 0 || sum > MOST || rate < 0
                || rate > (days ? 36500 : 200)) {
            return 5;
        }
        return entries.size() == 300 ? 10 : 0;
    }

    E add(E parent, long sum, int owner) {
        E made = new E();
        made.number = entries.size() + 1;
        made.parent = parent;
        made.sum = sum;
        made.owner = owner;
        if (parent != null) {
            made.kind = parent.kind;
            made.folio = parent.folio;
            parent.parts.add(made);
        }
        entries.add(made);
        return made;
    }

    int enter(int folio, int kind, long sum, int rate, long parcels) {
        if (!set(enterStatus(folio, kind, sum, rate, parcels))) {
            return -1;
        }
        E made = add(null, kind == 3 ? 0 : sum, 0);
        made.folio = folio;
        made.kind = kind;
        made.entered = sum;
        made.rate = rate;
        made.mask = parcels;
        made.dated = dated();
        made.known = today;
        made.interest = dated();
        return made.number;
    }

    boolean claim(int entry, int from, int years) {
        E e = e(entry);
        if (!set(e == null ? 1 : e.kind != 5 || e.parent != null ? 4
                : from < 0 || from > 36500 || years < 1 || years > 30 ? 5
                : e.claim != null ? 8 : 0)) {
            return false;
        }
        e.claim = new int[] {from, years, dated(), today};
        return true;
    }

    boolean owe(int entry, long sum) {
        E e = e(entry);
        if (!set(e == null ? 1 : e.kind != 3 ? 4 : sum < 0 || sum > e.whole().entered ? 5
                : !lives(e, now()) ? 6 : !e.parts.isEmpty() ? 8
                : sum(e.whole().number) - e.sum + sum > e.whole().entered ? 8 : 0)) {
            return false;
        }
        e.sum = sum;
        return true;
    }

    long pay(int entry, long sum) {
        E e = e(entry);
        if (!set(e == null ? 1 : e.kind == 4 || e.kind == 6 ? 4 : sum < 0 || sum > sum(entry) ? 5
                : !lives(e, now()) ? 6 : !e.parts.isEmpty() ? 8 : 0)) {
            return -1;
        }
        e.sum -= sum;
        return e.sum;
    }

    boolean paper(int entry, boolean there) {
        E e = e(entry);
        if (!set(e == null ? 1 : e.kind != 2 && e.kind != 3 ? 4 : 0)) {
            return false;
        }
        e.whole().paper = there;
        return true;
    }

    int split(int entry, long sum) {
        E e = e(entry);
        if (!set(e == null ? 1 : e.kind == 4 || e.kind == 6 ? 4 : sum < 0 || sum > sum(entry) ? 5
                : !lives(e, now()) ? 6 : !e.parts.isEmpty() ? 8 : entries.size() > 298 ? 10 : 0)) {
            return -1;
        }
        E first = add(e, sum, e.owner);
        add(e, e.sum - sum, e.owner);
        return first.number;
    }

    int hand(int entry, long sum, int owner) {
        E e = e(entry);
        if (!set(e == null ? 1 : e.kind == 4 || e.kind == 6 ? 4
                : sum < 0 || sum > sum(entry) || owner < 1 || owner > 1000 ? 5
                : !lives(e, now()) ? 6
                : (e.kind == 2 || e.kind == 3) && !e.whole().paper ? 7
                : !e.parts.isEmpty() ? 8 : entries.size() > 298 ? 10 : 0)) {
            return -1;
        }
        add(e, e.sum - sum, e.owner);
        return add(e, sum, owner).number;
    }

    /** The wholes on the way from one to another, the goal left out; null if there is none. */
    List<Integer> way(E start, E goal) {
        Map<E, E> cameFrom = new HashMap<>();
        ArrayDeque<E> open = new ArrayDeque<>(List.of(start));
        cameFrom.put(start, null);
        while (!open.isEmpty() && !cameFrom.containsKey(goal)) {
            E at = open.remove();
            for (P p : posts) {
                E next = p.b.whole();
                if (undone.get(p.number - 1) == null && p.a.whole() == at
                        && !cameFrom.containsKey(next)) {
                    cameFrom.put(next, at);
                    open.add(next);
                }
            }
        }
        if (!cameFrom.containsKey(goal)) {
            return null;
        }
        List<Integer> back = new ArrayList<>();
        for (E at = cameFrom.get(goal); at != null; at = cameFrom.get(at)) {
            back.add(0, at.number);
        }
        return back;
    }

    int postStatus(int a, int b, long limit) {
        E x = e(a);
        E y = e(b);
        if (x == null || y == null) {
            return 1;
        }
        if (x.kind == 6 || y.kind == 6) {
            return 4;
        }
        if (limit < 0 || limit > MOST || x.whole() == y.whole()) {
            return 5;
        }
        if (!lives(x, now()) || !lives(y, now()) || x.folio != y.folio) {
            return 6;
        }
        List<Integer> way = way(y.whole(), x.whole());
        if (way != null) {
            circles++;
            circle = new ArrayList<>(List.of(x.whole().number));
            circle.addAll(way);
            return 9;
        }
        return posts.size() == 100 ? 10 : 0;
    }

    int post(int a, int b, long limit) {
        if (!set(postStatus(a, b, limit))) {
            return -1;
        }
        posts.add(new P(posts.size() + 1, e(a), e(b), limit, dated(), today, null));
        undone.add(null);
        return posts.size();
    }

    boolean undo(int post) {
        boolean there = post >= 1 && post <= posts.size();
        if (!set(!there ? 1 : undone.get(post - 1) != null ? 8 : 0)) {
            return false;
        }
        undone.set(post - 1, new int[] {dated(), today});
        return true;
    }

    int lieStatus(int entry, int parcel) {
        E e = e(entry);
        if (e == null) {
            return 1;
        }
        int s = land(e.folio, parcel);
        return s != 0 ? s : lies(e, parcel, now()) ? 0 : 6;
    }

    boolean release(int entry, int parcel) {
        if (!set(lieStatus(entry, parcel))) {
            return false;
        }
        releases.add(new Release(e(entry), parcel, dated(), today));
        return true;
    }

    boolean strike(int entry) {
        E e = e(entry);
        if (!set(e == null ? 1 : e.parent != null ? 4 : !lives(e, now()) ? 6
                : dated() < e.dated ? 8 : 0)) {
            return false;
        }
        e.struck = new int[] {dated(), today};
        return true;
    }

    boolean keep(int caution, int entry) {
        E c = e(caution);
        E e = e(entry);
        if (!set(c == null || e == null ? 1 : c.kind != 6 || e.kind == 6 || e.parent != null ? 4
                : !lives(c, now()) || !lives(e, now()) || c.folio != e.folio ? 6
                : e.dated < c.dated || e.dated > c.dated + c.rate
                    || c.keeps != null || e.keeps != null ? 8 : 0)) {
            return false;
        }
        c.keeps = new int[] {entry, dated(), today};
        e.keeps = new int[] {caution, dated(), today};
        return true;
    }

    int many(int folio, int parcel) {
        return set(land(folio, parcel)) ? order(folio, parcel, now(), new int[301]).size() : -1;
    }

    int nth(int folio, int parcel, At at, int i) {
        List<E> all = order(folio, parcel, at, new int[301]);
        return set(i < 0 || i >= all.size() ? 5 : 0) ? all.get(i).number : -1;
    }

    int list(int folio, int parcel, int i) {
        return set(land(folio, parcel)) ? nth(folio, parcel, now(), i) : -1;
    }

    int standing(int entry, int parcel, boolean moved) {
        int s = lieStatus(entry, parcel);
        if (!set(s == 0 && e(entry).kind == 6 ? 6 : s)) {
            return -1;
        }
        E w = e(entry).whole();
        int[] moves = new int[301];
        int place = order(w.folio, parcel, now(), moves).indexOf(w);
        return moved ? moves[w.number] : place;
    }

    int rank(int entry, int parcel) {
        return standing(entry, parcel, false);
    }

    int why(int entry, int parcel) {
        return standing(entry, parcel, true);
    }

    int as(int parcel, int day, int known, int i) {
        if (!set(land(chosen, parcel))) {
            return -1;
        }
        if (!set(day < 0 || day > today || known < 0 || known > today ? 5 : 0)) {
            return -1;
        }
        return nth(chosen, parcel, new At(day, known), i);
    }

    boolean choose(int folio) {
        if (!set(folio < 0 || folio >= folios.size() ? 1 : 0)) {
            return false;
        }
        chosen = folio;
        return true;
    }

    static long total(Map<E, Long> map, E top) {
        return map.entrySet().stream().filter(x -> x.getKey().within(top))
                .mapToLong(Map.Entry::getValue).sum();
    }

    static long get(Map<E, Long> has, Map<E, Long> due, E top, long amount) {
        long open = amount;
        for (E leaf : top.leaves()) {
            long part = Math.min(open, due.get(leaf) - has.get(leaf));
            has.merge(leaf, part, Long::sum);
            open -= part;
        }
        return amount - open;
    }

    static void give(Map<E, Long> has, E top, long amount) {
        long open = amount;
        List<E> leaves = top.leaves();
        for (int i = leaves.size() - 1; i >= 0; i--) {
            long part = Math.min(open, has.get(leaves.get(i)));
            has.merge(leaves.get(i), -part, Long::sum);
            open -= part;
        }
    }

    long sell(int folio, int parcel, long sum, long costs, boolean sold) {
        int s = land(folio, parcel);
        boolean money = sum >= 0 && sum <= MOST && costs >= 0 && costs <= MOST && costs <= sum;
        if (!set(s != 0 ? s : money ? 0 : 5)) {
            return -1;
        }
        List<E> all = order(folio, parcel, now(), new int[301]);
        Map<E, Long> due = new LinkedHashMap<>();
        Map<E, Long> has = new LinkedHashMap<>();
        for (E w : all) {
            dues(w).forEach((leaf, d) -> due.put(leaf, released(leaf, parcel, now()) ? 0L : d));
        }
        due.keySet().forEach(leaf -> has.put(leaf, 0L));
        long left = sum - costs;
        for (Place place : places(folio, parcel, now())) {
            left -= get(has, due, place.whole, Math.min(left, place.limit));
        }
        for (P p : posts) {
            if (counts(p, folio, parcel, now())) {
                long x = Math.min(p.limit, Math.min(total(has, p.a), total(due, p.b)));
                long y = Math.min(x, total(has, p.b));
                give(has, p.a, x);
                give(has, p.b, y);
                get(has, due, p.b, x);
                get(has, due, p.a, y);
            }
        }
        owner = left;
        shares.clear();
        for (E e : entries) {
            shares.put(e.number, total(has, e));
        }
        if (sold) {
            carryOut(all, parcel, due, has);
        }
        return left;
    }

    void carryOut(List<E> all, int parcel, Map<E, Long> due, Map<E, Long> has) {
        sold++;
        for (E w : all) {
            for (E leaf : w.leaves()) {
                if (released(leaf, parcel, now())) {
                    continue;
                }
                long lacked = due.get(leaf) - has.get(leaf);
                leaf.sum = w.kind == 4 ? lacked : Math.min(lacked, leaf.sum);
                releases.add(new Release(leaf, parcel, today, today));
            }
            w.touched = true;
            w.interest = today;
        }
    }

    long share(int entry) {
        return shares.getOrDefault(entry, 0L);
    }

    boolean tell(int entry, long sum) {
        if (!set(e(entry) == null ? 1 : sum < 0 ? 5 : 0)) {
            return false;
        }
        told.put(entry, sum);
        return true;
    }

    int check(long ownerSum) {
        set(0);
        int answer = ownerSum == owner ? 0 : -1;
        for (int n = entries.size(); n >= 1; n--) {
            if (e(n).parent == null && told.getOrDefault(n, 0L) != share(n)) {
                answer = n;
            }
        }
        told.clear();
        return answer;
    }

    int circle(int i) {
        return i >= 0 && i < circle.size() ? circle.get(i) : -1;
    }

    long due(int entry) {
        return e(entry) == null ? -1 : total(dues(e(entry).whole()), e(entry));
    }

    int kind(int entry, int what) {
        E e = e(entry);
        if (e == null || what < 0 || what > 9) {
            return -1;
        }
        E w = e.whole();
        return List.of(w.kind, w.folio, w.number, e.parent == null ? 0 : e.parent.number, e.owner,
                lives(e, now()) ? 1 : 0, w.dated, w.known, e.parts.size(),
                e.keeps == null ? 0 : e.keeps[0]).get(what);
    }

    long sum(int entry) {
        E e = e(entry);
        return e == null ? -1 : e.leaves().stream().mapToLong(l -> l.sum).sum();
    }

    long parcels(int entry) {
        long bits = 0;
        for (int p = 0; p < 60 && e(entry) != null; p++) {
            bits |= lies(e(entry), p, now()) ? 1L << p : 0;
        }
        return bits;
    }

    int count(int what) {
        int[] all = {today, folios.size(), entries.size(), posts.size(), dated(), sold, circles};
        return what < 0 || what >= all.length ? -1 : Arrays.stream(all).skip(what).findFirst().getAsInt();
    }
}
