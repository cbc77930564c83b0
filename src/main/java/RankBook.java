/**
 * A registry of what is owed upon land and in which order. The words that the comments use
 * (whole, part, leaf, place, order, due) are those of the document's section 'Terms'.
 *
 * No call throws: every number from outside is looked at first, and a call that cannot be
 * done is refused by its status.
 */
public final class RankBook {
    /** None, or refused. */
    public static final int NONE = -1;

    private static final int MAX_FOLIOS = 40;
    private static final int MAX_PARCELS = 60;
    private static final int MAX_ENTRIES = 300;
    private static final int MAX_POSTS = 100;
    private static final int MAX_DAY = 36500;
    private static final int MAX_OWNER = 1000;
    private static final int MAX_RATE = 200;
    private static final int MAX_CLAIM_YEARS = 30;
    private static final long MAX_SUM = 999999999999L;

    private static final int YEAR = 365;
    private static final int INTEREST_YEARS = 2;
    private static final int RENT_YEARS = 20;
    private static final long INTEREST_DIVISOR = 365000L;

    private static final int CHARGE = 1;
    private static final int ORDER = 2;
    private static final int TOP = 3;
    private static final int RENT = 4;
    private static final int CLAIM = 5;
    private static final int CAUTION = 6;

    private static final int DONE = 0;
    private static final int NO_SUCH = 1;
    private static final int NO_PARCEL = 2;
    private static final int TORN = 3;
    private static final int OTHER_KIND = 4;
    private static final int OUT_OF_RANGE = 5;
    private static final int NOT_THERE = 6;
    private static final int NO_PAPER = 7;
    private static final int TOO_LATE = 8;
    private static final int CIRCLE = 9;
    private static final int NO_ROOM = 10;

    private final Folio[] folios;
    private final Entry[] entries;
    private final Circle latestCircle;
    private int folioCount;
    private int entryCount;
    private int postCount;
    private Post firstPost;
    private Post lastPost;
    private Moment now;
    /** What since() told; TODAY where it told none. */
    private int actDay;
    private int chosenFolio;
    private long ownerHas;
    private int soldCount;
    private int status;

    public RankBook() {
        folios = new Folio[MAX_FOLIOS];
        entries = new Entry[MAX_ENTRIES];
        latestCircle = new Circle();
        now = new Moment(0, 0);
    }

    // ---- folios and days

    public int folio(int parcels) {
        if (!settle(folioFault(parcels))) {
            return NONE;
        }
        int number = folioCount;
        folios[number] = new Folio(number, parcels);
        folioCount++;
        return number;
    }

    private int folioFault(int size) {
        if (size < 1 || size > MAX_PARCELS) {
            return OUT_OF_RANGE;
        }
        return folioCount >= MAX_FOLIOS ? NO_ROOM : DONE;
    }

    public boolean tear(int folio, int parcel) {
        Folio land = folioAt(folio);
        if (!settle(parcelFault(land, parcel)) || land == null) {
            return false;
        }
        land.tearOff(parcel);
        return true;
    }

    public boolean day(int d) {
        if (!settle(dayFault(d))) {
            return false;
        }
        now = new Moment(d, d);
        actDay = d;
        return true;
    }

    private int dayFault(int d) {
        if (d > MAX_DAY) {
            return OUT_OF_RANGE;
        }
        return d < now.day ? TOO_LATE : DONE;
    }

    public boolean since(int d) {
        if (!settle(isPastOrToday(d) ? DONE : OUT_OF_RANGE)) {
            return false;
        }
        actDay = d;
        return true;
    }

    // ---- entries and what is owed

    public int enter(int folio, int kind, long sum, int rate, long parcels) {
        Folio land = folioAt(folio);
        if (!settle(enterFault(land, kind, sum, rate, parcels)) || land == null) {
            return NONE;
        }
        Act entered = newAct();
        Terms terms = new Terms(kind, rate, sum, entered.dated);
        Whole whole = new Whole(land, parcels, entered, terms);
        Entry root = new Entry(entryCount + 1, whole, null, kind == TOP ? 0 : sum, 0);
        whole.begin(root);
        land.insert(whole);
        return addEntry(root);
    }

    private int enterFault(Folio land, int kind, long sum, int rate, long parcels) {
        if (land == null) {
            return NO_SUCH;
        }
        if (parcels == 0 || (parcels & ~land.allParcels()) != 0) {
            return NO_PARCEL;
        }
        if ((parcels & land.torn) != 0) {
            return TORN;
        }
        if (kind < CHARGE || kind > CAUTION || !isSum(sum) || rate < 0 || rate > maxRate(kind)) {
            return OUT_OF_RANGE;
        }
        return entryCount >= MAX_ENTRIES ? NO_ROOM : DONE;
    }

    /** A rent's rate is its last day, a caution's the days that it keeps. */
    private static int maxRate(int kind) {
        return kind == RENT || kind == CAUTION ? MAX_DAY : MAX_RATE;
    }

    public boolean claim(int entry, int from, int years) {
        Entry e = entryAt(entry);
        if (!settle(claimFault(e, from, years)) || e == null) {
            return false;
        }
        e.whole.terms.claimAhead(from, years, newAct());
        return true;
    }

    private static int claimFault(Entry e, int from, int years) {
        if (e == null) {
            return NO_SUCH;
        }
        if (e.parent != null || e.whole.terms.kind != CLAIM) {
            return OTHER_KIND;
        }
        if (from < 0 || from > MAX_DAY || years < 1 || years > MAX_CLAIM_YEARS) {
            return OUT_OF_RANGE;
        }
        return e.whole.terms.claimed != null ? TOO_LATE : DONE;
    }

    public boolean owe(int entry, long sum) {
        Entry e = entryAt(entry);
        if (!settle(oweFault(e, sum)) || e == null) {
            return false;
        }
        e.owed = sum;
        return true;
    }

    private int oweFault(Entry e, long sum) {
        if (e == null) {
            return NO_SUCH;
        }
        Terms terms = e.whole.terms;
        if (terms.kind != TOP) {
            return OTHER_KIND;
        }
        if (sum < 0 || sum > terms.top) {
            return OUT_OF_RANGE;
        }
        if (!e.whole.livesAt(now)) {
            return NOT_THERE;
        }
        boolean fits = e.whole.owedBelow(null) - e.owed + sum <= terms.top;
        return e.hasParts || !fits ? TOO_LATE : DONE;
    }

    public long pay(int entry, long sum) {
        Entry e = entryAt(entry);
        if (!settle(payFault(e, sum)) || e == null) {
            return NONE;
        }
        e.owed -= sum;
        return e.owed;
    }

    private int payFault(Entry e, long sum) {
        if (e == null) {
            return NO_SUCH;
        }
        if (!e.whole.terms.isDivisible()) {
            return OTHER_KIND;
        }
        if (sum < 0 || sum > e.whole.owedBelow(e)) {
            return OUT_OF_RANGE;
        }
        if (!e.whole.livesAt(now)) {
            return NOT_THERE;
        }
        return e.hasParts ? TOO_LATE : DONE;
    }

    public boolean paper(int entry, boolean there) {
        Entry e = entryAt(entry);
        if (!settle(paperFault(e)) || e == null) {
            return false;
        }
        e.whole.paperThere = there;
        return true;
    }

    private static int paperFault(Entry e) {
        if (e == null) {
            return NO_SUCH;
        }
        return e.whole.terms.hasPaper() ? DONE : OTHER_KIND;
    }

    // ---- parts

    public int split(int entry, long sum) {
        Entry e = entryAt(entry);
        if (!settle(divideFault(e, sum, true, false)) || e == null) {
            return NONE;
        }
        return divide(e, sum, e.owner);
    }

    public int hand(int entry, long sum, int owner) {
        Entry e = entryAt(entry);
        boolean ownerFits = owner >= 1 && owner <= MAX_OWNER;
        if (!settle(divideFault(e, sum, ownerFits, true)) || e == null) {
            return NONE;
        }
        return divide(e, e.owed - sum, owner) + 1;
    }

    private int divideFault(Entry e, long sum, boolean ownerFits, boolean byPaper) {
        if (e == null) {
            return NO_SUCH;
        }
        Whole whole = e.whole;
        if (!whole.terms.isDivisible()) {
            return OTHER_KIND;
        }
        if (!ownerFits || sum < 0 || sum > whole.owedBelow(e)) {
            return OUT_OF_RANGE;
        }
        if (!whole.livesAt(now)) {
            return NOT_THERE;
        }
        if (byPaper && whole.terms.hasPaper() && !whole.paperThere) {
            return NO_PAPER;
        }
        if (e.hasParts) {
            return TOO_LATE;
        }
        return entryCount + 2 > MAX_ENTRIES ? NO_ROOM : DONE;
    }

    /** Two parts of a leaf, the first with this sum and its owner; the first one's number. */
    private int divide(Entry leaf, long firstSum, int secondOwner) {
        Whole whole = leaf.whole;
        int number = entryCount + 1;
        Entry first = new Entry(number, whole, leaf, firstSum, leaf.owner);
        Entry second = new Entry(number + 1, whole, leaf, leaf.owed - firstSum, secondOwner);
        whole.replaceLeaf(leaf, first, second);
        addEntry(first);
        addEntry(second);
        return number;
    }

    // ---- posts

    public int post(int a, int b, long limit) {
        Entry giver = entryAt(a);
        Entry taker = entryAt(b);
        if (!settle(postFault(giver, taker, limit)) || giver == null || taker == null) {
            return NONE;
        }
        Post made = new Post(postCount + 1, giver, taker, limit, newAct());
        if (lastPost == null) {
            firstPost = made;
        } else {
            lastPost.next = made;
        }
        lastPost = made;
        postCount++;
        return made.number;
    }

    private int postFault(Entry giver, Entry taker, long limit) {
        if (giver == null || taker == null) {
            return NO_SUCH;
        }
        Whole from = giver.whole;
        Whole to = taker.whole;
        if (from.terms.kind == CAUTION || to.terms.kind == CAUTION) {
            return OTHER_KIND;
        }
        if (!isSum(limit) || from == to) {
            return OUT_OF_RANGE;
        }
        if (!liveInOneFolio(from, to)) {
            return NOT_THERE;
        }
        if (latestCircle.closedBy(from, to, firstPost)) {
            return CIRCLE;
        }
        return postCount >= MAX_POSTS ? NO_ROOM : DONE;
    }

    public boolean undo(int post) {
        Post p = postAt(post);
        if (!settle(undoFault(p)) || p == null) {
            return false;
        }
        p.undone = newAct();
        return true;
    }

    private static int undoFault(Post p) {
        if (p == null) {
            return NO_SUCH;
        }
        return p.undone != null ? TOO_LATE : DONE;
    }

    // ---- releases, strikes, cautions

    public boolean release(int entry, int parcel) {
        Entry e = entryAt(entry);
        if (!settle(lieFault(e, parcel)) || e == null) {
            return false;
        }
        e.recordRelease(parcel, newAct());
        return true;
    }

    public boolean strike(int entry) {
        Entry e = entryAt(entry);
        if (!settle(strikeFault(e)) || e == null) {
            return false;
        }
        e.whole.struck = newAct();
        return true;
    }

    private int strikeFault(Entry e) {
        if (e == null) {
            return NO_SUCH;
        }
        if (e.parent != null) {
            return OTHER_KIND;
        }
        if (!e.whole.livesAt(now)) {
            return NOT_THERE;
        }
        return actDay < e.whole.entered.dated ? TOO_LATE : DONE;
    }

    public boolean keep(int caution, int entry) {
        Entry keeper = entryAt(caution);
        Entry e = entryAt(entry);
        if (!settle(keepFault(keeper, e)) || keeper == null || e == null) {
            return false;
        }
        keeper.whole.partner = e.whole;
        keeper.whole.kept = newAct();
        e.whole.partner = keeper.whole;
        return true;
    }

    private int keepFault(Entry keeper, Entry e) {
        if (keeper == null || e == null) {
            return NO_SUCH;
        }
        Whole caution = keeper.whole;
        Whole whole = e.whole;
        if (caution.terms.kind != CAUTION || whole.terms.kind == CAUTION || e.parent != null) {
            return OTHER_KIND;
        }
        if (!liveInOneFolio(caution, whole)) {
            return NOT_THERE;
        }
        int daysBehind = whole.entered.dated - caution.entered.dated;
        boolean inTime = daysBehind >= 0 && daysBehind <= caution.terms.rate;
        return !inTime || caution.partner != null || whole.partner != null ? TOO_LATE : DONE;
    }

    // ---- the order

    public int many(int folio, int parcel) {
        Folio land = folioAt(folio);
        if (!settle(parcelFault(land, parcel)) || land == null) {
            return NONE;
        }
        Ranking ranking = new Ranking(land, parcel, now, firstPost);
        ranking.arrange();
        return ranking.size;
    }

    public int list(int folio, int parcel, int i) {
        return nth(folioAt(folio), parcel, now, i);
    }

    public int rank(int entry, int parcel) {
        Whole whole = standing(entryAt(entry), parcel);
        return whole == null ? NONE : whole.rank;
    }

    public int why(int entry, int parcel) {
        Whole whole = standing(entryAt(entry), parcel);
        return whole == null ? NONE : whole.moves;
    }

    public int as(int parcel, int day, int known, int i) {
        Folio land = folioAt(chosenFolio);
        int fault = parcelFault(land, parcel);
        if (fault == DONE && !(isPastOrToday(day) && isPastOrToday(known))) {
            fault = OUT_OF_RANGE;
        }
        if (!settle(fault)) {
            return NONE;
        }
        return nth(land, parcel, new Moment(day, known), i);
    }

    public boolean choose(int folio) {
        if (!settle(folioAt(folio) == null ? NO_SUCH : DONE)) {
            return false;
        }
        chosenFolio = folio;
        return true;
    }

    private int nth(Folio land, int parcel, Moment moment, int i) {
        if (!settle(parcelFault(land, parcel)) || land == null) {
            return NONE;
        }
        Ranking ranking = new Ranking(land, parcel, moment, firstPost);
        ranking.arrange();
        Whole whole = ranking.wholeAt(i);
        if (!settle(whole == null ? OUT_OF_RANGE : DONE) || whole == null) {
            return NONE;
        }
        return whole.number();
    }

    /** An entry's whole with its rank of now, or null where it has none. */
    private Whole standing(Entry e, int parcel) {
        int fault = lieFault(e, parcel);
        if (fault == DONE && e != null && e.whole.terms.kind == CAUTION) {
            fault = NOT_THERE;
        }
        if (!settle(fault) || e == null) {
            return null;
        }
        Ranking ranking = new Ranking(e.whole.folio, parcel, now, firstPost);
        ranking.arrange();
        return e.whole;
    }

    // ---- sales

    public long sale(int folio, int parcel, long sum, long costs) {
        Sale made = offer(folioAt(folio), parcel, sum, costs);
        return made == null ? NONE : ownerHas;
    }

    public long sell(int folio, int parcel, long sum, long costs) {
        Sale made = offer(folioAt(folio), parcel, sum, costs);
        if (made == null) {
            return NONE;
        }
        made.carryOut();
        soldCount++;
        return ownerHas;
    }

    /** A sale with its shares told to the entries; null if it is refused. */
    private Sale offer(Folio land, int parcel, long sum, long costs) {
        if (!settle(saleFault(land, parcel, sum, costs)) || land == null) {
            return null;
        }
        for (int i = 0; i < entryCount; i++) {
            Entry e = entries[i];
            if (e != null) {
                e.latestShare = 0;
            }
        }
        Ranking ranking = new Ranking(land, parcel, now, firstPost);
        ranking.arrange();
        Sale made = new Sale(ranking, sum - costs);
        made.distribute();
        ownerHas = made.left;
        return made;
    }

    private static int saleFault(Folio land, int parcel, long sum, long costs) {
        int fault = parcelFault(land, parcel);
        if (fault != DONE) {
            return fault;
        }
        return isSum(sum) && isSum(costs) && costs <= sum ? DONE : OUT_OF_RANGE;
    }

    public long share(int entry) {
        Entry e = entryAt(entry);
        return e == null ? 0 : e.latestShare;
    }

    public boolean tell(int entry, long sum) {
        Entry e = entryAt(entry);
        int wrongSum = sum < 0 ? OUT_OF_RANGE : DONE;
        if (!settle(e == null ? NO_SUCH : wrongSum) || e == null) {
            return false;
        }
        e.toldShare = sum;
        return true;
    }

    public int check(long owner) {
        int answer = owner == ownerHas ? 0 : NONE;
        boolean found = false;
        for (int i = 0; i < entryCount; i++) {
            Entry e = entries[i];
            if (e == null) {
                continue;
            }
            if (!found && e.parent == null && e.toldShare != e.latestShare) {
                answer = e.number;
                found = true;
            }
            e.toldShare = 0;
        }
        settle(DONE);
        return answer;
    }

    // ---- what is told

    public int circle(int i) {
        return latestCircle.wholeAt(i);
    }

    public long due(int entry) {
        Entry e = entryAt(entry);
        if (e == null) {
            return NONE;
        }
        e.whole.spreadDue(now.day);
        return e.whole.leafDueBelow(e);
    }

    public int kind(int entry, int what) {
        Entry e = entryAt(entry);
        if (e == null) {
            return NONE;
        }
        Whole whole = e.whole;
        switch (what) {
            case 0:
                return whole.terms.kind;
            case 1:
                return whole.folio.number;
            case 2:
                return whole.number();
            case 3:
                return e.parent == null ? 0 : e.parent.number;
            case 4:
                return e.owner;
            case 5:
                return whole.livesAt(now) ? 1 : 0;
            case 6:
                return whole.entered.dated;
            case 7:
                return whole.entered.known;
            case 8:
                return e.hasParts ? 2 : 0;
            case 9:
                return e.parent != null || whole.partner == null ? 0 : whole.partner.number();
            default:
                return NONE;
        }
    }

    public long sum(int entry) {
        Entry e = entryAt(entry);
        return e == null ? NONE : e.whole.owedBelow(e);
    }

    public long parcels(int entry) {
        Entry e = entryAt(entry);
        if (e == null) {
            return 0;
        }
        long bits = 0;
        for (int p = 0; p < MAX_PARCELS; p++) {
            if (e.liesOn(p, now)) {
                bits |= 1L << p;
            }
        }
        return bits;
    }

    public int status() {
        return status;
    }

    public int count(int what) {
        switch (what) {
            case 0:
                return now.day;
            case 1:
                return folioCount;
            case 2:
                return entryCount;
            case 3:
                return postCount;
            case 4:
                return actDay;
            case 5:
                return soldCount;
            case 6:
                return latestCircle.refusals;
            default:
                return NONE;
        }
    }

    // ---- what the calls above share

    /** Sets the status; true if the call may be done. */
    private boolean settle(int fault) {
        status = fault;
        return fault == DONE;
    }

    private Act newAct() {
        return new Act(actDay, now.day);
    }

    private boolean isPastOrToday(int d) {
        return d >= 0 && d <= now.day;
    }

    private static boolean isSum(long sum) {
        return sum >= 0 && sum <= MAX_SUM;
    }

    private boolean liveInOneFolio(Whole one, Whole other) {
        return one.livesAt(now) && other.livesAt(now) && one.folio == other.folio;
    }

    private static int parcelFault(Folio land, int parcel) {
        if (land == null) {
            return NO_SUCH;
        }
        if (!land.hasParcel(parcel)) {
            return NO_PARCEL;
        }
        return land.isTorn(parcel) ? TORN : DONE;
    }

    private int lieFault(Entry e, int parcel) {
        if (e == null) {
            return NO_SUCH;
        }
        int fault = parcelFault(e.whole.folio, parcel);
        if (fault != DONE) {
            return fault;
        }
        return e.liesOn(parcel, now) ? DONE : NOT_THERE;
    }

    private Folio folioAt(int number) {
        return number >= 0 && number < folioCount ? folios[number] : null;
    }

    private Entry entryAt(int number) {
        return number >= 1 && number <= entryCount ? entries[number - 1] : null;
    }

    private Post postAt(int number) {
        for (Post p = firstPost; p != null; p = p.next) {
            if (p.number == number) {
                return p;
            }
        }
        return null;
    }

    private int addEntry(Entry e) {
        if (entryCount >= entries.length) {
            return NONE;
        }
        entries[entryCount] = e;
        entryCount++;
        return e.number;
    }

    /** A day, and the day of whose knowledge it is looked at. */
    private static final class Moment {
        final int day;
        final int known;

        Moment(int day, int known) {
            this.day = day;
            this.known = known;
        }
    }

    /** Something that was done, with the day it holds from and the day it is known from. */
    private static final class Act {
        final int dated;
        final int known;

        Act(int dated, int known) {
            this.dated = dated;
            this.known = known;
        }

        static boolean happened(Act act, Moment moment) {
            return act != null && act.dated <= moment.day && act.known <= moment.known;
        }
    }

    /** A folio; its wholes are a chain by date, then by number, which is how places go. */
    private static final class Folio {
        final int number;
        final int size;
        long torn;
        Whole first;
        Whole last;

        Folio(int number, int size) {
            this.number = number;
            this.size = size;
        }

        boolean hasParcel(int parcel) {
            return parcel >= 0 && parcel < size;
        }

        boolean isTorn(int parcel) {
            return (torn >>> parcel & 1L) != 0;
        }

        void tearOff(int parcel) {
            torn |= 1L << parcel;
        }

        long allParcels() {
            return (1L << size) - 1;
        }

        /** From the end backwards: most wholes are dated later than those before them. */
        void insert(Whole made) {
            Whole ahead = last;
            while (ahead != null && ahead.entered.dated > made.entered.dated) {
                ahead = ahead.previous;
            }
            Whole behind = ahead == null ? first : ahead.next;
            made.previous = ahead;
            made.next = behind;
            if (ahead == null) {
                first = made;
            } else {
                ahead.next = made;
            }
            if (behind == null) {
                last = made;
            } else {
                behind.previous = made;
            }
        }
    }

    /** What a whole was entered with, and how much is due by it. */
    private static final class Terms {
        final int kind;
        final int rate;
        final long top;
        int interestFrom;
        int interestYears;
        /** Of a claim: null till it was told from which day it goes ahead. */
        Act claimed;
        int aheadFrom;
        boolean touched;

        Terms(int kind, int rate, long top, int interestFrom) {
            this.kind = kind;
            this.rate = rate;
            this.top = top;
            this.interestFrom = interestFrom;
            this.interestYears = INTEREST_YEARS;
        }

        /** Rents and cautions are neither paid nor divided. */
        boolean isDivisible() {
            return kind != RENT && kind != CAUTION;
        }

        boolean hasPaper() {
            return kind == ORDER || kind == TOP;
        }

        void claimAhead(int from, int years, Act act) {
            aheadFrom = from;
            interestYears = years;
            claimed = act;
        }

        boolean goesAhead(Moment moment) {
            return Act.happened(claimed, moment) && aheadFrom <= moment.day;
        }

        long dueOf(long owed, int today) {
            switch (kind) {
                case CAUTION:
                    return 0;
                case RENT:
                    return touched ? owed : owed * rentYears(today);
                case TOP:
                    return Math.min(top, withInterest(owed, today));
                default:
                    return withInterest(owed, today);
            }
        }

        private long withInterest(long owed, int today) {
            int days = Math.min(today - interestFrom, YEAR * interestYears);
            return owed + owed * rate * days / INTEREST_DIVISOR;
        }

        private int rentYears(int today) {
            if (rate == 0) {
                return RENT_YEARS;
            }
            return Math.min(RENT_YEARS, Math.max(0, rate - today) / YEAR);
        }
    }

    /** An entry that is no part, with all that its parts have in common. */
    private static final class Whole {
        final Folio folio;
        final long enteredFor;
        final Act entered;
        final Terms terms;
        Act struck;
        boolean paperThere;
        /** The caution that keeps this whole, or the whole that this caution keeps. */
        Whole partner;
        /** Of a caution: when it came to keep. */
        Act kept;
        Entry root;
        Entry firstLeaf;
        Entry lastLeaf;
        Whole previous;
        Whole next;
        /** As the latest ranking left them. */
        boolean liesThere;
        int rank;
        int moves;
        /** As the latest search for a circle left it. */
        int steps;

        Whole(Folio folio, long enteredFor, Act entered, Terms terms) {
            this.folio = folio;
            this.enteredFor = enteredFor;
            this.entered = entered;
            this.terms = terms;
            this.paperThere = true;
        }

        void begin(Entry entry) {
            root = entry;
            firstLeaf = entry;
            lastLeaf = entry;
        }

        int number() {
            return root == null ? NONE : root.number;
        }

        boolean livesAt(Moment moment) {
            return Act.happened(entered, moment) && !Act.happened(struck, moment);
        }

        void replaceLeaf(Entry leaf, Entry first, Entry second) {
            leaf.hasParts = true;
            first.previousLeaf = leaf.previousLeaf;
            first.nextLeaf = second;
            second.previousLeaf = first;
            second.nextLeaf = leaf.nextLeaf;
            if (leaf.previousLeaf == null) {
                firstLeaf = first;
            } else {
                leaf.previousLeaf.nextLeaf = first;
            }
            if (leaf.nextLeaf == null) {
                lastLeaf = second;
            } else {
                leaf.nextLeaf.previousLeaf = second;
            }
        }

        /** What the leaves below an entry owe; below null: all of them. */
        long owedBelow(Entry top) {
            long total = 0;
            for (Entry leaf = firstLeaf; leaf != null; leaf = leaf.nextLeaf) {
                if (top == null || leaf.isBelow(top)) {
                    total += leaf.owed;
                }
            }
            return total;
        }

        /** Writes what is due to each leaf, so that cutting never loses a coin of the whole. */
        void spreadDue(int today) {
            long owed = 0;
            long dueSoFar = 0;
            for (Entry leaf = firstLeaf; leaf != null; leaf = leaf.nextLeaf) {
                owed += leaf.owed;
                long dueWithIt = terms.dueOf(owed, today);
                leaf.leafDue = dueWithIt - dueSoFar;
                dueSoFar = dueWithIt;
            }
        }

        long leafDueBelow(Entry top) {
            long total = 0;
            for (Entry leaf = firstLeaf; leaf != null; leaf = leaf.nextLeaf) {
                if (leaf.isBelow(top)) {
                    total += leaf.leafDue;
                }
            }
            return total;
        }
    }

    /** A whole's own entry, or a part; while it has no parts it is a leaf. */
    private static final class Entry {
        final int number;
        final Whole whole;
        final Entry parent;
        final int owner;
        long owed;
        boolean hasParts;
        /** By parcel; made with the first release, as most entries have none. */
        Act[] releases;
        Entry previousLeaf;
        Entry nextLeaf;
        /** Of a leaf: what is due to it, and what the sale at hand gives it. */
        long leafDue;
        long leafHas;
        long latestShare;
        long toldShare;

        Entry(int number, Whole whole, Entry parent, long owed, int owner) {
            this.number = number;
            this.whole = whole;
            this.parent = parent;
            this.owed = owed;
            this.owner = owner;
        }

        boolean isBelow(Entry top) {
            for (Entry e = this; e != null; e = e.parent) {
                if (e == top) {
                    return true;
                }
            }
            return false;
        }

        void recordRelease(int parcel, Act act) {
            if (releases == null) {
                releases = new Act[whole.folio.size];
            }
            if (parcel >= 0 && parcel < releases.length) {
                releases[parcel] = act;
            }
        }

        /** Also by a release of what it is a part of. */
        boolean isReleased(int parcel, Moment moment) {
            for (Entry e = this; e != null; e = e.parent) {
                Act[] row = e.releases;
                if (row != null && parcel >= 0 && parcel < row.length
                        && Act.happened(row[parcel], moment)) {
                    return true;
                }
            }
            return false;
        }

        boolean liesOn(int parcel, Moment moment) {
            Folio land = whole.folio;
            if (!land.hasParcel(parcel) || land.isTorn(parcel)
                    || (whole.enteredFor >>> parcel & 1L) == 0 || !whole.livesAt(moment)) {
                return false;
            }
            for (Entry leaf = whole.firstLeaf; leaf != null; leaf = leaf.nextLeaf) {
                if (leaf.isBelow(this) && !leaf.isReleased(parcel, moment)) {
                    return true;
                }
            }
            return false;
        }
    }

    /** An entry, the giver, lets another, the taker, go ahead of it up to a limit. */
    private static final class Post {
        final int number;
        final Entry giver;
        final Entry taker;
        final long limit;
        final Act made;
        Act undone;
        Post next;

        Post(int number, Entry giver, Entry taker, long limit, Act made) {
            this.number = number;
            this.giver = giver;
            this.taker = taker;
            this.limit = limit;
            this.made = made;
        }

        boolean countsOn(Folio land, int parcel, Moment moment) {
            return giver.whole.folio == land
                    && Act.happened(made, moment) && !Act.happened(undone, moment)
                    && giver.liesOn(parcel, moment) && taker.liesOn(parcel, moment);
        }

        void changePlaces() {
            Whole from = giver.whole;
            Whole to = taker.whole;
            if (from.rank >= to.rank) {
                return;
            }
            int place = from.rank;
            from.rank = to.rank;
            to.rank = place;
            from.moves++;
            to.moves++;
        }
    }

    /** The order of a parcel at a moment; the ranks themselves are written into the wholes. */
    private static final class Ranking {
        final Folio folio;
        final int parcel;
        final Moment moment;
        final Post firstPost;
        int size;

        Ranking(Folio folio, int parcel, Moment moment, Post firstPost) {
            this.folio = folio;
            this.parcel = parcel;
            this.moment = moment;
            this.firstPost = firstPost;
        }

        void arrange() {
            for (Whole w = folio.first; w != null; w = w.next) {
                w.liesThere = w.root != null && w.root.liesOn(parcel, moment);
                w.rank = NONE;
                w.moves = 0;
            }
            rankPlaces(true);
            rankPlaces(false);
            for (Post p = firstPost; p != null; p = p.next) {
                if (p.countsOn(folio, parcel, moment)) {
                    p.changePlaces();
                }
            }
        }

        private void rankPlaces(boolean ahead) {
            for (Whole w = folio.first; w != null; w = w.next) {
                Whole placed = placedBy(w, ahead);
                if (placed != null && placed.rank == NONE) {
                    placed.rank = size;
                    size++;
                }
            }
        }

        /**
         * Which whole has a place where this one stands, among the claims that go ahead or
         * among all others: itself, or, where a caution stands, the one that it keeps.
         */
        Whole placedBy(Whole w, boolean ahead) {
            if (!w.liesThere) {
                return null;
            }
            if (w.terms.kind != CAUTION) {
                return w.terms.goesAhead(moment) == ahead ? w : null;
            }
            if (ahead || !Act.happened(w.kept, moment)) {
                return null;
            }
            Whole keeps = w.partner;
            return keeps != null && keeps.liesThere ? keeps : null;
        }

        Whole wholeAt(int i) {
            for (Whole w = folio.first; w != null; w = w.next) {
                if (w.rank != NONE && w.rank == i) {
                    return w;
                }
            }
            return null;
        }
    }

    /** What a sale gives to each of the wholes that a ranking has just arranged. */
    private static final class Sale {
        final Ranking ranking;
        long left;

        Sale(Ranking ranking, long left) {
            this.ranking = ranking;
            this.left = left;
        }

        void distribute() {
            for (Whole w = ranking.folio.first; w != null; w = w.next) {
                if (w.rank != NONE) {
                    makeReady(w);
                }
            }
            payPlaces(true);
            payPlaces(false);
            for (Post p = ranking.firstPost; p != null; p = p.next) {
                if (p.countsOn(ranking.folio, ranking.parcel, ranking.moment)) {
                    giveWay(p);
                }
            }
            for (Whole w = ranking.folio.first; w != null; w = w.next) {
                if (w.rank != NONE) {
                    tellShares(w);
                }
            }
        }

        /** A leaf that is released of the parcel keeps its place in the due of the others. */
        private void makeReady(Whole w) {
            w.spreadDue(ranking.moment.day);
            for (Entry leaf = w.firstLeaf; leaf != null; leaf = leaf.nextLeaf) {
                leaf.leafHas = 0;
                if (leaf.isReleased(ranking.parcel, ranking.moment)) {
                    leaf.leafDue = 0;
                }
            }
        }

        private void payPlaces(boolean ahead) {
            for (Whole w = ranking.folio.first; w != null; w = w.next) {
                Whole placed = ranking.placedBy(w, ahead);
                if (placed != null && placed.root != null) {
                    long most = placed == w ? left : Math.min(left, w.owedBelow(null));
                    left -= get(placed.root, most);
                }
            }
        }

        private static void giveWay(Post p) {
            long dueToTaker = p.taker.whole.leafDueBelow(p.taker);
            long x = Math.min(p.limit, Math.min(hasBelow(p.giver), dueToTaker));
            long y = Math.min(x, hasBelow(p.taker));
            give(p.giver, x);
            give(p.taker, y);
            get(p.taker, x);
            get(p.giver, y);
        }

        private static long hasBelow(Entry top) {
            long total = 0;
            for (Entry leaf = top.whole.firstLeaf; leaf != null; leaf = leaf.nextLeaf) {
                if (leaf.isBelow(top)) {
                    total += leaf.leafHas;
                }
            }
            return total;
        }

        private static void give(Entry top, long amount) {
            long open = amount;
            for (Entry leaf = top.whole.lastLeaf; leaf != null; leaf = leaf.previousLeaf) {
                if (leaf.isBelow(top)) {
                    long part = Math.min(open, leaf.leafHas);
                    leaf.leafHas -= part;
                    open -= part;
                }
            }
        }

        /** What of the amount could be taken. */
        private static long get(Entry top, long amount) {
            long open = amount;
            for (Entry leaf = top.whole.firstLeaf; leaf != null; leaf = leaf.nextLeaf) {
                if (leaf.isBelow(top)) {
                    long part = Math.min(open, leaf.leafDue - leaf.leafHas);
                    leaf.leafHas += part;
                    open -= part;
                }
            }
            return amount - open;
        }

        private static void tellShares(Whole w) {
            for (Entry leaf = w.firstLeaf; leaf != null; leaf = leaf.nextLeaf) {
                for (Entry e = leaf; e != null; e = e.parent) {
                    e.latestShare += leaf.leafHas;
                }
            }
        }

        void carryOut() {
            Act sold = new Act(ranking.moment.day, ranking.moment.day);
            for (Whole w = ranking.folio.first; w != null; w = w.next) {
                if (w.rank != NONE) {
                    settleLeaves(w, sold);
                    w.terms.interestFrom = sold.dated;
                    w.terms.touched = true;
                }
            }
        }

        private void settleLeaves(Whole w, Act sold) {
            for (Entry leaf = w.firstLeaf; leaf != null; leaf = leaf.nextLeaf) {
                if (!leaf.isReleased(ranking.parcel, ranking.moment)) {
                    long lacked = leaf.leafDue - leaf.leafHas;
                    boolean mayGrow = w.terms.kind == RENT;
                    leaf.owed = mayGrow ? lacked : Math.min(lacked, leaf.owed);
                    leaf.recordRelease(ranking.parcel, sold);
                }
            }
        }
    }

    /** The latest circle that a post would have closed, and how many there were. */
    private static final class Circle {
        final int[] wholes;
        int length;
        int refusals;

        Circle() {
            wholes = new int[MAX_POSTS + 1];
        }

        int wholeAt(int i) {
            return i >= 0 && i < length && i < wholes.length ? wholes[i] : NONE;
        }

        /** Whether 'to' gives way to 'from' already; the circle is kept if it does. */
        boolean closedBy(Whole from, Whole to, Post firstPost) {
            measureSteps(from, to, firstPost);
            if (to.steps == NONE) {
                return false;
            }
            refusals++;
            length = 0;
            add(from);
            Whole at = to;
            for (int i = 0; i < MAX_POSTS && at != null && at != from; i++) {
                add(at);
                at = nearer(at, firstPost);
            }
            return true;
        }

        /** Writes into the wholes by how few posts they give way to the goal. */
        private static void measureSteps(Whole goal, Whole start, Post firstPost) {
            for (Post p = firstPost; p != null; p = p.next) {
                p.giver.whole.steps = NONE;
                p.taker.whole.steps = NONE;
            }
            start.steps = NONE;
            goal.steps = 0;
            boolean grown = true;
            for (int steps = 1; steps <= MAX_POSTS && grown; steps++) {
                grown = false;
                for (Post p = firstPost; p != null; p = p.next) {
                    Whole from = p.giver.whole;
                    if (p.undone == null && from.steps == NONE && p.taker.whole.steps == steps - 1) {
                        from.steps = steps;
                        grown = true;
                    }
                }
            }
        }

        private static Whole nearer(Whole at, Post firstPost) {
            for (Post p = firstPost; p != null; p = p.next) {
                if (p.undone == null && p.giver.whole == at && p.taker.whole.steps == at.steps - 1) {
                    return p.taker.whole;
                }
            }
            return null;
        }

        private void add(Whole w) {
            if (length < wholes.length) {
                wholes[length] = w.number();
                length++;
            }
        }
    }
}
