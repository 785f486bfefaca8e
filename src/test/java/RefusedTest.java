import java.util.function.Supplier;
import java.util.function.ToIntFunction;

/**
 * "Refused, changing nothing but how often, the first of: BAD .. NO .. FULL". Two objects are made by
 * the same calls; one of them refuses a call, and then both answer alike for all that follows, but for
 * how often they refused.
 */
public final class RefusedTest {
    private static final int BAD = SpeltRoutes.BAD, NO = SpeltRoutes.NO, FULL = SpeltRoutes.FULL;
    private static final int[] WRONG = {-2, 10, 31, 128, 1000000, Integer.MAX_VALUE, Integer.MIN_VALUE};

    public static void main(String[] args) {
        badOfTheGraph();
        badOfExpressions();
        badOfRoutes();
        badOfTheRest();
        noneTold();
        noneStands();
        alike();
        full();
        badAheadOfNo();
        badAheadOfFull();
        noAheadOfFull();
        countedOneByOne();
        whatIsNotRefused();
        Due.end();
    }

    // ---- the objects: with some of all, and with as many as may be

    /** 0 and 1 are told and 1 stands, with pairs that came and were lost; THE TEXT is a begun one. */
    private static SpeltRoutes some() {
        SpeltRoutes r = Due.with("a(b|c)*", "(a|B)+");
        r.draw(4242, 9);
        r.stand(1);
        r.edge(8, 0, 8);
        r.edge(8, 0, 9);
        r.edge(9, 0, 7);
        r.drop(10);
        Due.text(r, "(b|");
        return r;
    }

    private static SpeltRoutes fullOne() {
        SpeltRoutes r = Due.with(".*a.........", "(.|-)*");
        r.draw(7, 30);
        r.edge(0, 0, 0);
        r.stand(0);
        Due.text(r, "a".repeat(80));
        return r;
    }

    // ---- what is compared

    private static void refused(String name, Supplier<SpeltRoutes> made, ToIntFunction<SpeltRoutes> call, int due) {
        SpeltRoutes one = made.get();
        SpeltRoutes other = made.get();
        Due.is(name, call.applyAsInt(one), due);
        sameButHowOften(name, one, other, due);
        Due.is(name + ": THE TEXT then", one.reads(0), other.reads(0));
        Due.is(name + ": clear then", one.clear(), other.clear());
        Due.is(name + ": drop then", one.drop(2), other.drop(2));
        Due.is(name + ": edge then", one.edge(1, 3, 1), other.edge(1, 3, 1));
        Due.is(name + ": type then", one.type('a'), other.type('a'));
        Due.is(name + ": reads then", one.reads(1), other.reads(1));
        sameButHowOften(name + ", later", one, other, due);
    }

    private static void sameButHowOften(String name, SpeltRoutes one, SpeltRoutes other, int due) {
        for (int what = 0; what < 3; what++) {
            Due.is(name + ": told " + what, one.told(what) - other.told(what), what == -2 - due ? 1 : 0);
        }
        // The digest has each of them as one summand: what differs is told(0), (1) or (2) alone.
        Due.is(name + ": digest", one.digest() - other.digest(), weight(-2 - due, other.told(4)));
        for (int x = 0; x < 4; x++) {
            Due.is(name + ": PLACES", one.about(x, 0), other.about(x, 0));
            Due.is(name + ": begin", one.about(x, 2), other.about(x, 2));
            Due.is(name + ": STATES", one.about(x, 4), other.about(x, 4));
        }
        for (int v = 0; v < 10; v++) {
            Due.is(name + ": ends 0", one.ends(0, v), other.ends(0, v));
            Due.is(name + ": ends 1", one.ends(1, v), other.ends(1, v));
            Due.is(name + ": kept", one.kept(8, v), other.kept(8, v));
            Due.is(name + ": degree", one.degree(v, 0), other.degree(v, 0));
        }
    }

    /** By what the digest grows, if one of its first seven does so by 1. */
    private static long weight(int place, int edges) {
        long h = 1;
        for (int k = place + 1; k < 7 + 3 * edges + 4 + 3; k++) {
            h *= 31;
        }
        return h;
    }

    private static void bad(String name, ToIntFunction<SpeltRoutes> call) {
        refused(name, RefusedTest::some, call, BAD);
        refused(name, RefusedTest::fullOne, call, BAD);
    }

    // ---- BAD

    private static void badOfTheGraph() {
        for (int w : WRONG) {
            bad("edge u", r -> r.edge(w, 0, 3));
            bad("edge letter", r -> r.edge(5, w, 3));
            bad("edge v", r -> r.edge(5, 0, w));
            bad("drop", r -> r.drop(w == 10 ? 30 : w));
            bad("of e", r -> r.of(w == 10 ? 30 : w, 0));
            bad("of what", r -> r.of(0, w));
            bad("degree v", r -> r.degree(w, 0));
            bad("degree what", r -> r.degree(0, w));
        }
    }

    private static void badOfExpressions() {
        for (int w : WRONG) {
            bad("type", r -> r.type(w == 10 || w == 31 ? -1 : w));
            bad("reads", r -> r.reads(w));
            bad("about x", r -> r.about(w, 0));
            bad("about what", r -> r.about(0, w));
            bad("accepts x", r -> r.accepts(w, 1, 0));
            bad("accepts n", r -> r.accepts(0, w, 0));
            bad("accepts code", r -> r.accepts(0, 1, w));
            bad("words x", r -> r.words(w, 9));
            bad("words n", r -> r.words(0, w));
            bad("beyond x", r -> r.beyond(w, 1));
            bad("beyond y", r -> r.beyond(1, w));
        }
    }

    private static void badOfRoutes() {
        for (int w : WRONG) {
            bad("answers x", r -> r.answers(w, 0, 0));
            bad("answers u", r -> r.answers(0, w, 0));
            bad("answers v", r -> r.answers(0, 0, w));
            bad("ends x", r -> r.ends(w, 0));
            bad("ends u", r -> r.ends(0, w));
            bad("pairs x", r -> r.pairs(w));
            bad("far x", r -> r.far(w, 0, 0));
            bad("far u", r -> r.far(0, w, 0));
            bad("far v", r -> r.far(0, 0, w));
            bad("count x", r -> r.count(w, 0, 0, 12));
            bad("count u", r -> r.count(0, w, 0, 12));
            bad("count v", r -> r.count(0, 0, w, 12));
            bad("count n", r -> r.count(0, 0, 0, w == 10 ? 13 : w));
            bad("route x", r -> r.route(w, 0, 0, 0, 0));
            bad("route u", r -> r.route(0, w, 0, 0, 0));
            bad("route v", r -> r.route(0, 0, w, 0, 0));
            bad("route k", r -> r.route(0, 0, 0, Math.min(w, -1), 0));
            bad("route what", r -> r.route(0, 0, 0, 0, w));
            bad("bridge x", r -> r.bridge(w, 0, 0));
            bad("bridge u", r -> r.bridge(0, w, 0));
            bad("bridge v", r -> r.bridge(0, 0, w));
        }
    }

    private static void badOfTheRest() {
        for (int w : WRONG) {
            bad("stand", r -> r.stand(w));
            bad("standing", r -> r.standing(w));
            bad("kept u", r -> r.kept(w, 0));
            bad("kept v", r -> r.kept(0, w));
            bad("draw seed", r -> r.draw(w == 10 || w == 31 || w == 128 ? -1 : w, 5));
            bad("draw n", r -> r.draw(5, w == 10 ? 31 : w));
            bad("told", r -> r.told(w));
        }
    }

    // ---- NO

    private static void noneTold() {
        for (int none = 2; none < 4; none++) {
            int x = none;
            refused("accepts", RefusedTest::some, r -> r.accepts(x, 1, 0), NO);
            refused("words", RefusedTest::some, r -> r.words(x, 1), NO);
            refused("beyond x", RefusedTest::some, r -> r.beyond(x, 0), NO);
            refused("beyond y", RefusedTest::some, r -> r.beyond(0, x), NO);
            refused("beyond both", RefusedTest::some, r -> r.beyond(x, x), NO);
            refused("answers", RefusedTest::some, r -> r.answers(x, 0, 0), NO);
            refused("ends", RefusedTest::some, r -> r.ends(x, 0), NO);
            refused("pairs", RefusedTest::some, r -> r.pairs(x), NO);
            refused("far", RefusedTest::some, r -> r.far(x, 0, 0), NO);
            refused("count", RefusedTest::some, r -> r.count(x, 0, 0, 1), NO);
            refused("route", RefusedTest::some, r -> r.route(x, 0, 0, 0, 0), NO);
            refused("bridge", RefusedTest::some, r -> r.bridge(x, 0, 0), NO);
            refused("stand", RefusedTest::some, r -> r.stand(x), NO);
            refused("stand, full", RefusedTest::fullOne, r -> r.stand(x), NO);
        }
    }

    private static void noneStands() {
        refused("kept", RefusedTest::noneStanding, r -> r.kept(0, 0), NO);
        refused("kept of a new one", () -> Due.with("a", "b"), r -> r.kept(9, 9), NO);
    }

    private static SpeltRoutes noneStanding() {
        SpeltRoutes r = some();
        r.stand(SpeltRoutes.NONE);
        return r;
    }

    private static void alike() {
        refused("the first again", RefusedTest::some, r -> r.edge(r.of(0, 0), r.of(0, 1), r.of(0, 2)), NO);
        refused("the last again", RefusedTest::some, r -> r.edge(9, 0, 7), NO);
        refused("a loop again", RefusedTest::some, r -> r.edge(8, 0, 8), NO);
    }

    // ---- FULL

    private static void full() {
        refused("edge", RefusedTest::fullOne, r -> r.edge(9, 3, 9), FULL);
        refused("type", RefusedTest::fullOne, r -> r.type('a'), FULL);
        refused("type 0", RefusedTest::fullOne, r -> r.type(0), FULL);
        refused("about", RefusedTest::fullOne, r -> r.about(0, 4), FULL);
        refused("words", RefusedTest::fullOne, r -> r.words(0, 9), FULL);
        refused("beyond", RefusedTest::fullOne, r -> r.beyond(0, 1), FULL);
        refused("count, ROUTES", RefusedTest::fullOne, r -> r.count(1, 0, 0, 12), FULL);
        refused("count, STATES", RefusedTest::manyStates, r -> r.count(0, 0, 0, 12), FULL);
    }

    private static SpeltRoutes manyStates() {
        SpeltRoutes r = Due.with(".*a.........", "a");
        for (int letter = 0; letter < 4; letter++) {
            r.edge(0, letter, 0);
        }
        r.stand(1);
        return r;
    }

    // ---- the first of them

    private static void badAheadOfNo() {
        SpeltRoutes r = new SpeltRoutes();
        Due.is("accepts n", r.accepts(0, 10, 0), BAD);
        Due.is("accepts code", r.accepts(0, 1, 8), BAD);
        Due.is("words", r.words(0, 10), BAD);
        Due.is("beyond y", r.beyond(0, 4), BAD);
        Due.is("beyond x", r.beyond(-1, 0), BAD);
        Due.is("answers u", r.answers(0, 10, 0), BAD);
        Due.is("answers v", r.answers(0, 0, 10), BAD);
        Due.is("ends", r.ends(0, 10), BAD);
        Due.is("far u", r.far(0, -1, 0), BAD);
        Due.is("far v", r.far(0, 0, -1), BAD);
        Due.is("count u", r.count(0, 10, 0, 0), BAD);
        Due.is("count v", r.count(0, 0, 10, 0), BAD);
        Due.is("count n", r.count(0, 0, 0, 13), BAD);
        Due.is("route u", r.route(0, 10, 0, 0, 0), BAD);
        Due.is("route v", r.route(0, 0, 10, 0, 0), BAD);
        Due.is("route k", r.route(0, 0, 0, -1, 0), BAD);
        Due.is("route what", r.route(0, 0, 0, 0, 3), BAD);
        Due.is("bridge u", r.bridge(0, 10, 0), BAD);
        Due.is("bridge v", r.bridge(0, 0, 10), BAD);
        Due.is("kept u", r.kept(10, 0), BAD);
        Due.is("kept v", r.kept(0, 10), BAD);
        Due.is("BAD", r.told(0), 21);
        Due.is("NO", r.told(1), 0);
    }

    private static void badAheadOfFull() {
        SpeltRoutes r = fullOne();
        Due.is("edge u", r.edge(10, 0, 1), BAD);
        Due.is("edge letter", r.edge(0, 4, 1), BAD);
        Due.is("edge v", r.edge(0, 0, -1), BAD);
        Due.is("type", r.type(128), BAD);
        Due.is("type", r.type(-1), BAD);
        Due.is("words", r.words(0, 10), BAD);
        Due.is("beyond", r.beyond(0, 4), BAD);
        Due.is("count", r.count(1, 0, 10, 12), BAD);
        Due.is("count", r.count(1, 0, 0, 13), BAD);
        Due.is("BAD", r.told(0), 9);
        Due.is("FULL", r.told(2), 0);
    }

    private static void noAheadOfFull() {
        SpeltRoutes r = fullOne();
        for (int e = 0; e < 30; e++) {
            Due.is("edge alike", r.edge(r.of(e, 0), r.of(e, 1), r.of(e, 2)), NO);
        }
        Due.is("beyond, many STATES and none told", r.beyond(0, 3), NO);
        Due.is("NO", r.told(1), 31);
        Due.is("FULL", r.told(2), 0);
    }

    private static void countedOneByOne() {
        SpeltRoutes r = fullOne();
        for (int k = 1; k <= 60; k++) {
            r.told(7);
            r.pairs(2);
            r.type('a');
            Due.is("BAD", r.told(0), k);
            Due.is("NO", r.told(1), k);
            Due.is("FULL", r.told(2), k);
        }
    }

    /** A FAULT, and NONE, are answers. */
    private static void whatIsNotRefused() {
        SpeltRoutes r = some();
        Due.is("FAULT", r.reads(0), -13);
        Due.is("about none", r.about(3, 4), SpeltRoutes.NONE);
        Due.is("no ROUTE", r.far(0, 9, 8), SpeltRoutes.NONE);
        Due.is("no STEP", r.route(0, 9, 8, 0, 0), SpeltRoutes.NONE);
        Due.is("no bridge", r.bridge(0, 9, 8), SpeltRoutes.NONE);
        Due.is("no WORD", r.beyond(0, 0), SpeltRoutes.NONE);
        Due.is("none stands", r.stand(SpeltRoutes.NONE), 0);
        Due.is("which stands", r.standing(0), SpeltRoutes.NONE);
        for (int what = 0; what < 3; what++) {
            Due.is("told " + what, r.told(what), 0);
        }
    }
}
