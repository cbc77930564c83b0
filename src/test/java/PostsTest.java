/** Promises 13, 14 and 29: posts, undone posts, circles. */
final class PostsTest {
    private static final long MOST = 999_999_999_999L;
    private static final Checks C = new Checks("PostsTest");

    public static void main(String[] args) {
        post();
        postRefused();
        postAsAnAct();
        undo();
        circle();
        fewest();
        leastPost();
        searchesAreTheirOwn();
        room();
        C.finish();
    }

    /** Charges 1 to 5, a caution 6, parts 7 and 8 of 5; 9 lies in another folio. */
    private static RankBook scene() {
        RankBook x = new RankBook();
        x.folio(2);
        x.folio(1);
        for (int i = 0; i < 5; i++) {
            x.enter(0, 1, 100, 0, 3);
        }
        x.enter(0, 6, 100, 10, 3);
        x.split(5, 40);
        x.enter(1, 1, 100, 0, 1);
        return x;
    }

    private static String order(RankBook x, int parcel) {
        StringBuilder text = new StringBuilder();
        for (int i = 0; i < x.many(0, parcel); i++) {
            text.append(x.list(0, parcel, i));
        }
        return text.toString();
    }

    private static void ordered(String what, RankBook x, int parcel, String want) {
        String got = order(x, parcel);
        C.due(what + ": order " + got + " for " + want, got.equals(want), true);
    }

    private static void post() {
        RankBook x = scene();
        C.done("13: post(1, 3, 50)", x, y -> y.post(1, 3, 50), 1);
        ordered("13", x, 0, "32145");
        C.done("13: post(2, 4, 0)", x, y -> y.post(2, 4, 0), 2);
        ordered("13: by numbers", x, 0, "34125");
        C.done("13: of the behind for the ahead", x, y -> y.post(1, 4, MOST), 3);
        ordered("13: changes nothing", x, 0, "34125");
        C.done("13: of a part", x, y -> y.post(3, 7, 1), 4);
        ordered("13: a part stands for its whole", x, 0, "54123");
        C.done("13: twice the same", x, y -> y.post(3, 7, 1), 5);
        C.due("13: count(3)", x.count(3), 5);
        RankBook z = scene();
        z.post(2, 7, 10);
        z.release(7, 0);
        ordered("13: it counts where both lie", z, 0, "12345");
        ordered("13: on the other parcel still", z, 1, "15342");
        RankBook w = scene();
        w.post(1, 2, 10);
        w.strike(2);
        ordered("13: and live", w, 0, "1345");
        RankBook v = scene();
        v.enter(1, 1, 100, 0, 1);
        C.done("13: in the other folio", v, y -> y.post(9, 10, 5), 1);
        C.due("13: the first there", v.list(1, 0, 0), 10);
        ordered("13: not in this one", v, 0, "12345");
    }

    private static RankBook struckScene() {
        RankBook x = scene();
        x.post(1, 2, 5);
        x.strike(2);
        x.strike(3);
        return x;
    }

    private static void postRefused() {
        C.refused("13: post(0, 1, 5)", PostsTest::scene, y -> y.post(0, 1, 5), 1);
        C.refused("13: post(1, 10, 5)", PostsTest::scene, y -> y.post(1, 10, 5), 1);
        C.refused("13: post(6, 10, -1)", PostsTest::scene, y -> y.post(6, 10, -1), 1);
        C.refused("13: of a caution", PostsTest::scene, y -> y.post(6, 1, -1), 4);
        C.refused("13: for a caution", PostsTest::scene, y -> y.post(1, 6, 5), 4);
        C.refused("13: a caution for itself", PostsTest::scene, y -> y.post(6, 6, 5), 4);
        C.refused("13: limit -1", PostsTest::scene, y -> y.post(1, 2, -1), 5);
        C.refused("13: limit too great", PostsTest::scene, y -> y.post(1, 2, MOST + 1), 5);
        C.refused("13: for itself", PostsTest::scene, y -> y.post(1, 1, 5), 5);
        C.refused("13: for its part", PostsTest::scene, y -> y.post(5, 7, 5), 5);
        C.refused("13: for its other part", PostsTest::scene, y -> y.post(8, 7, 5), 5);
        C.refused("13: struck A", PostsTest::struckScene, y -> y.post(3, 1, 5), 6);
        C.refused("13: struck B", PostsTest::struckScene, y -> y.post(1, 3, 5), 6);
        C.refused("13: struck, limit", PostsTest::struckScene, y -> y.post(1, 3, -1), 5);
        C.refused("13: struck, a circle", PostsTest::struckScene, y -> y.post(2, 1, 5), 6);
        C.refused("13: another folio", PostsTest::scene, y -> y.post(1, 9, 5), 6);
    }

    private static void postAsAnAct() {
        RankBook x = scene();
        x.day(20);
        x.since(10);
        x.post(1, 2, 5);
        x.day(30);
        x.since(25);
        x.undo(1);
        C.due("13: dated", x.as(0, 10, 20, 0), 2);
        C.due("13: not dated yet", x.as(0, 9, 20, 0), 1);
        C.due("13: not known yet", x.as(0, 10, 19, 0), 1);
        C.due("14: dated", x.as(0, 25, 30, 0), 1);
        C.due("14: not dated yet", x.as(0, 24, 30, 0), 2);
        C.due("14: not known yet", x.as(0, 25, 29, 0), 2);
    }

    private static void undo() {
        RankBook x = scene();
        x.post(1, 2, 5);
        x.post(3, 4, 5);
        C.did("14: undo(1)", x, y -> y.undo(1));
        ordered("14: the other counts", x, 0, "12435");
        C.due("14: count(3) is left", x.count(3), 2);
        C.due("14: already", x.undo(1), false);
        C.due("14: already: status()", x.status(), 8);
        C.denied("14: undo(0)", PostsTest::struckScene, y -> y.undo(0), 1);
        C.denied("14: undo(-1)", PostsTest::struckScene, y -> y.undo(-1), 1);
        C.denied("14: undo(2)", PostsTest::struckScene, y -> y.undo(2), 1);
        C.did("14: of what does not live", struckScene(), y -> y.undo(1));
        RankBook early = scene();
        early.day(10);
        early.post(1, 2, 5);
        early.since(0);
        C.did("14: dated ahead of the post", early, y -> y.undo(1));
        ordered("14: it does not count", early, 0, "12345");
    }

    private static void circled(String what, RankBook x, int... want) {
        C.due(what + ": status()", x.status(), 9);
        for (int i = 0; i < want.length; i++) {
            C.due(what + ": circle(" + i + ")", x.circle(i), want[i]);
        }
        C.due(what + ": behind its end", x.circle(want.length), -1);
        C.due(what + ": circle(-1)", x.circle(-1), -1);
    }

    private static RankBook chain() {
        RankBook x = scene();
        x.post(1, 2, 5);
        x.post(2, 3, 5);
        x.post(3, 8, 5);
        return x;
    }

    private static void circle() {
        RankBook x = chain();
        C.due("29: ahead of any", x.circle(0), -1);
        C.circled("13: post(7, 1, 5)", PostsTest::chain, y -> y.post(7, 1, 5));
        C.due("29: post(7, 1, 5)", x.post(7, 1, 5), -1);
        circled("29: by parts, too", x, 5, 1, 2, 3);
        C.due("29: count(6)", x.count(6), 1);
        C.due("29: post(2, 1, 5)", x.post(2, 1, 5), -1);
        circled("29: the latest one", x, 2, 1);
        C.due("29: count(6) again", x.count(6), 2);
        x.post(1, 6, 5);
        C.due("29: another refusal leaves it", x.circle(1), 1);
        C.tellsAlone("29: circle(0)", x, y -> y.circle(0), 2);
        x.undo(2);
        C.done("13: undone, it is no circle", x, y -> y.post(5, 1, 5), 4);
        C.due("29: the latest one stays", x.circle(0), 2);
        RankBook z = chain();
        z.strike(2);
        C.due("13: struck between", z.post(3, 1, 5), -1);
        circled("13: whether they count or not", z, 3, 1, 2);
        RankBook w = chain();
        w.day(5);
        w.since(0);
        w.undo(1);
        C.done("13: not undone now", w, y -> y.post(5, 1, 5), 4);
    }

    private static void fewest() {
        RankBook x = scene();
        x.post(1, 2, 5);
        x.post(2, 3, 5);
        x.post(3, 4, 5);
        x.post(1, 5, 5);
        x.post(5, 4, 5);
        C.due("29: post(4, 1, 5)", x.post(4, 1, 5), -1);
        circled("29: the fewest", x, 4, 1, 5);
    }

    private static void leastPost() {
        RankBook x = scene();
        x.post(3, 4, 5);
        x.post(1, 3, 5);
        x.post(1, 2, 5);
        x.post(2, 4, 5);
        C.due("29: post(4, 1, 5)", x.post(4, 1, 5), -1);
        circled("29: by the least post", x, 4, 1, 3);
        x.undo(2);
        C.due("29: post(4, 1, 5) again", x.post(4, 1, 5), -1);
        circled("29: of those not undone", x, 4, 1, 2);
        RankBook y = scene();
        y.post(2, 4, 5);
        y.post(1, 3, 5);
        y.post(1, 2, 5);
        y.post(3, 4, 5);
        C.due("29: post(4, 1, 5), first step first", y.post(4, 1, 5), -1);
        circled("29: at each step, the first one first", y, 4, 1, 3);
    }

    /** What one search has found must not be taken for true by the next one. */
    private static void searchesAreTheirOwn() {
        RankBook x = scene();
        x.post(1, 2, 5);
        x.post(2, 3, 5);
        C.due("13: post(3, 1, 5)", x.post(3, 1, 5), -1);
        circled("13: the first search", x, 3, 1, 2);
        C.done("13: post(4, 1, 5)", x, y -> y.post(4, 1, 5), 3);
        C.due("13: post(2, 4, 5)", x.post(2, 4, 5), -1);
        circled("13: the second search", x, 2, 4, 1);
        C.done("13: post(3, 5, 5)", x, y -> y.post(3, 5, 5), 4);
        C.due("13: post(5, 2, 5)", x.post(5, 2, 5), -1);
        circled("13: the third search", x, 5, 2, 3);
        C.done("13: post(1, 5, 5)", x, y -> y.post(1, 5, 5), 5);
        C.due("13: post(5, 4, 5)", x.post(5, 4, 5), -1);
        circled("13: the fourth search", x, 5, 4, 1);
    }

    private static void room() {
        RankBook x = new RankBook();
        x.folio(1);
        for (int i = 0; i < 102; i++) {
            x.enter(0, 1, 1, 0, 1);
        }
        for (int i = 1; i <= 100; i++) {
            C.due("13: post " + i, x.post(i, i + 1, 1), i);
        }
        C.due("13: the 101st", x.post(101, 102, 1), -1);
        C.due("13: the 101st: status()", x.status(), 10);
        C.due("13: 9 comes ahead of 10", x.post(101, 1, 1), -1);
        C.due("13: 9 comes ahead of 10: status()", x.status(), 9);
        C.due("29: the longest: circle(0)", x.circle(0), 101);
        C.due("29: the longest: circle(1)", x.circle(1), 1);
        C.due("29: the longest: circle(100)", x.circle(100), 100);
        C.due("29: the longest: circle(101)", x.circle(101), -1);
        C.due("29: circle(most)", x.circle(Integer.MAX_VALUE), -1);
        C.due("13: 6 comes ahead of 10", x.strike(102), true);
        x.post(101, 102, 1);
        C.due("13: 6 comes ahead of 10: status()", x.status(), 6);
        C.due("13: count(3)", x.count(3), 100);
        C.due("13: all of them, by numbers", x.list(0, 0, 0), 101);
    }
}
