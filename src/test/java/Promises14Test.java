import java.util.HashSet;
import java.util.Set;

/** The sentences of promises 14 to 26 that name a bound, each with a test of its own. */
public final class Promises14Test {
    private static final int NONE = SpeltRoutes.NONE, BAD = SpeltRoutes.BAD, NO = SpeltRoutes.NO;
    private static final int FULL = SpeltRoutes.FULL;

    public static void main(String[] args) {
        noneAndAllPairs();
        withoutEdges();
        howFar();
        theLongestRoute();
        inAnyOrder();
        countsOfNoneAndTwelve();
        thousandMillionRoutes();
        fourHundredStates();
        statesOfTheRoutesAlone();
        stepsOfTheFirst();
        alongAheadOfBack();
        edgesRising();
        bridgesFirstAndLast();
        noBridge();
        standsOrNone();
        sinceItStood();
        keptPairs();
        drawnInPlaceOfAll();
        drawnTwiceIsLeftOut();
        drawnByHand();
        drawnWhileOneStands();
        toldOfEach();
        digestOfTheEmpty();
        digestOfTheFull();
        Due.end();
    }

    // ---- 14 to 17

    private static SpeltRoutes ring(String... texts) {
        SpeltRoutes r = Due.with(texts);
        for (int v = 0; v < 10; v++) {
            r.edge(v, 0, (v + 1) % 10);
        }
        return r;
    }

    /** 14 to 16: "1, 0", "as bits", "How many ANSWERS": none, those of one sign, and all. */
    private static void noneAndAllPairs() {
        SpeltRoutes r = ring("b", "a", "a*", "()");
        int[] pairs = {0, 10, 100, 10};
        for (int x = 0; x < 4; x++) {
            Due.is("pairs " + x, r.pairs(x), pairs[x]);
            for (int u = 0; u < 10; u++) {
                int ends = new int[] {0, 1 << (u + 1) % 10, 1023, 1 << u}[x];
                Due.is("ends " + x, r.ends(x, u), ends);
                for (int v = 0; v < 10; v += 3) {
                    Due.is("answers " + x, r.answers(x, u, v), ends >> v & 1);
                }
            }
        }
    }

    /** 14 to 17: ANSWERS without EDGES are those of the ROUTE without STEPS. */
    private static void withoutEdges() {
        SpeltRoutes r = Due.with("a", "(.|-)*", "a?");
        for (int x = 0; x < 3; x++) {
            Due.is("pairs", r.pairs(x), x == 0 ? 0 : 10);
            for (int v = 0; v < 10; v++) {
                Due.is("ends", r.ends(x, v), x == 0 ? 0 : 1 << v);
                Due.is("answers", r.answers(x, v, v), x == 0 ? 0 : 1);
                Due.is("answers", r.answers(x, v, 9 - v), 0);
                Due.is("far", r.far(x, v, v), x == 0 ? NONE : 0);
                Due.is("far", r.far(x, v, 9 - v), NONE);
            }
        }
    }

    /** 17: "How many STEPS the shortest ROUTE .. has that FITS; NONE": 0, 1, all round, and NONE. */
    private static void howFar() {
        SpeltRoutes r = ring("a*", "a+", "b", "A+");
        for (int v = 0; v < 10; v++) {
            Due.is("a* to " + v, r.far(0, 0, v), v);
            Due.is("a+ to " + v, r.far(1, 0, v), v == 0 ? 10 : v);
            Due.is("b to " + v, r.far(2, 0, v), NONE);
            Due.is("back to " + v, r.far(3, 0, v), 10 - v);
        }
        r.edge(0, 0, 0);
        Due.is("a loop", r.far(1, 0, 0), 1);
        r.anew();
        Due.is("no EDGES", r.far(1, 0, 0), NONE);
        // Two EDGES lead on from 1 to the end, each by PLACES of its own.
        r = Due.with("ab|cc", "ac|bb");
        r.edge(0, 0, 1);
        r.edge(1, 1, 2);
        r.edge(1, 2, 2);
        Due.is("by b", r.far(0, 0, 2), 2);
        Due.is("by c", r.far(1, 0, 2), 2);
    }

    /** 14 to 20: the longest there can be goes through all PLACES at all VERTICES, 240 STEPS. */
    private static void theLongestRoute() {
        SpeltRoutes r = Due.with("(" + "a".repeat(23) + "b)+");
        for (int v = 0; v < 10; v++) {
            r.edge(v, 0, v);
            r.edge(v, 1, (v + 1) % 10);
        }
        Due.is("far", r.far(0, 0, 0), 240);
        Due.is("far", r.far(0, 0, 9), 216);
        Due.is("answers", r.answers(0, 0, 0), 1);
        Due.is("pairs", r.pairs(0), 100);
        Due.is("first STEP", r.route(0, 0, 0, 0, 0), 0);
        Due.is("first b", r.route(0, 0, 0, 23, 0), 1);
        Due.is("last a", r.route(0, 0, 0, 238, 0), 18);
        Due.is("last STEP", r.route(0, 0, 0, 239, 0), 19);
        Due.is("last STEP", r.route(0, 0, 0, 239, 2), 0);
        Due.is("no more", r.route(0, 0, 0, 240, 0), NONE);
        Due.is("bridge", r.bridge(0, 0, 0), 0);
        r.drop(19);
        Due.is("the ring is open", r.far(0, 0, 0), NONE);
        Due.is("the ring is open", r.far(0, 0, 9), 216);
    }

    /** What was asked ahead of it changes no answer: forth and back through all pairs, and by new objects. */
    private static void inAnyOrder() {
        String[] texts = {"(a|B)+c*", ".*", "a?b?C?", "(.|-)(.|-)"};
        int[][] forth = new int[4][100];
        SpeltRoutes r = null;
        for (int i = 0; i < 400; i++) {
            if (i % 100 == 0) {
                r = Due.with(texts);
                r.draw(42, 16);
            }
            forth[i / 100][i % 100] = shown(r, i);
        }
        for (int i = 399; i >= 0; i--) {
            if (i % 100 == 99) {
                r = Due.with(texts);
                r.draw(42, 16);
            }
            Due.is("back", shown(r, i), forth[i / 100][i % 100]);
        }
        for (int i = 0; i < 400; i++) {
            r = Due.with(texts);
            r.draw(42, 16);
            Due.is("alone", shown(r, i), forth[i / 100][i % 100]);
        }
    }

    private static int shown(SpeltRoutes r, int i) {
        int x = i / 100;
        int u = i / 10 % 10;
        int v = i % 10;
        int h = r.far(x, u, v);
        h = 31 * h + r.route(x, u, v, 0, 0);
        h = 31 * h + r.route(x, u, v, 1, 2);
        return 31 * h + r.bridge(x, u, v);
    }

    // ---- 18

    private static SpeltRoutes loops(String... texts) {
        SpeltRoutes r = Due.with(texts);
        for (int letter = 0; letter < 4; letter++) {
            r.edge(0, letter, 0);
        }
        return r;
    }

    /** 18: "of just n (0 .. 12) STEPS": none, one, twelve; neither more nor fewer. */
    private static void countsOfNoneAndTwelve() {
        SpeltRoutes r = ring("a*", "a?", "aaaaaaaaaaaa", "()");
        for (int n = 0; n <= 12; n++) {
            Due.is("a* " + n, r.count(0, 0, n % 10, n), 1);
            Due.is("a* elsewhere " + n, r.count(0, 0, (n + 1) % 10, n), 0);
            Due.is("a? " + n, r.count(1, 0, n % 10, n), n <= 1 ? 1 : 0);
            Due.is("twelve " + n, r.count(2, 0, n % 10, n), n == 12 ? 1 : 0);
            Due.is("() " + n, r.count(3, 0, n % 10, n), n == 0 ? 1 : 0);
        }
        Due.is("thirteen", r.count(0, 0, 3, 13), BAD);
        Due.is("less than none", r.count(0, 0, 0, -1), BAD);
    }

    /** 18: "FULL: there are more than 1000000000": 8 8 8 times 5 to the ninth are just so many. */
    private static void thousandMillionRoutes() {
        SpeltRoutes r = loops("(.|-)(.|-)(.|-)(.|A)*", "(.|-)(.|-)(.|-)(.|A)*|D*", "(.|-)*", "a");
        Due.is("just so many", r.count(0, 0, 0, 12), 1000000000);
        Due.is("FULL", r.told(2), 0);
        Due.is("one more", r.count(1, 0, 0, 12), FULL);
        Due.is("one more, but shorter", r.count(1, 0, 0, 11), 200000001);
        Due.is("far more", r.count(2, 0, 0, 12), FULL);
        Due.is("FULL", r.told(2), 2);
        Due.is("none of the many", r.count(3, 0, 0, 12), 0);
        Due.is("none elsewhere", r.count(2, 0, 1, 12), 0);
        // All ROUTES there can be from VERTEX to VERTEX: sums far beyond an int, at every cell.
        r.anew();
        for (int e = 0; e < 30; e++) {
            r.edge(e % 3, e / 9, e / 3 % 3);
        }
        Due.is("EDGES", r.told(4), 30);
        Due.is("too many", r.count(2, 0, 0, 12), FULL);
        Due.is("from where no EDGE is", r.count(2, 9, 9, 12), 0);
        Due.is("from where no EDGE is", r.count(2, 9, 9, 0), 1);
    }

    /** 18: "or WORDS that ROUTES of n STEPS or fewer from u spell lead to more than 400 STATES". */
    private static void fourHundredStates() {
        most(8, "(a|b)*a(.|A)..(.|-)(.|-).(.|A)?(.|A).(a|b)");
        most(10, "(.|A)*a(a|A)(a|b)(a|b)b?.(a|b)(.|-)(.|-)(.|A)a?.");
        most(12, "(a*b)*b(.|-)(a|b)(b|A)(.|-)b?.(b|A)(.|-)b.(b|A)|-*A.");
        most(12, "(.|-)*b(.|-)(.|-)(.|-)(b|A)(.|A)(a|b)(a|A)(.|-)(a|A)(a|b)a");
        // 400 by 10, and no more by 12.
        most(10, "(.|-)*a(.|-)(a|b)(.|-)b?.(.|A).(.|-)a|-*Ab");
        most(12, "(.|-)*a(.|-)(a|b)(.|-)b?.(.|A).(.|-)a|-*Ab");
        more(9, "(.|-)*a(.|-)(.|A)(.|A)(a|A)(a|A)(.|-)(a|A)-(.|-)");
        more(10, "(.|-)*a(.|-)(a|b)(.|-)(.|A)(.|A)(.|A)(b|A)?-(.|-)-");
        more(11, "(.|A)*a...(a|b)(a|b).(.|A)(a|A)A(a|A)?(b|A)");
        more(12, "(.|A)*a(a|b)(a|A)(.|-)a(.|-).(.|-)(a|b).-?(a|A)");
    }

    /** Not FULL at n: elsewhere there are no ROUTES, but the STATES are counted all the same. */
    private static void most(int n, String text) {
        SpeltRoutes r = loops(text);
        Due.is("so many", Model.statesBy(text, n), 400);
        Due.is("400 by " + n, r.count(0, 0, 1, n), 0);
        Due.is("FULL", r.told(2), 0);
    }

    private static void more(int n, String text) {
        SpeltRoutes r = loops(text);
        Due.is("one more", Model.statesBy(text, n), 401);
        Due.is("401 by " + n, r.count(0, 0, 1, n), FULL);
        Due.is("401 by " + n, r.count(0, 0, 0, n), FULL);
        Due.is("fewer by " + (n - 1), r.count(0, 0, 1, n - 1), 0);
        Due.is("FULL", r.told(2), 2);
    }

    /** 18: only WORDS that ROUTES from u spell: few from elsewhere, or where signs are missing. */
    private static void statesOfTheRoutesAlone() {
        SpeltRoutes r = loops(".*a.........");
        Due.is("many from 0", r.count(0, 0, 0, 12), FULL);
        r.edge(1, 0, 1);
        Due.is("a alone from 1", r.count(0, 1, 1, 12), 1);
        Due.is("none from 2", r.count(0, 2, 2, 12), 0);
        r.edge(1, 1, 0);
        // From 1 by b to 0, and then all WORDS: as many STATES again, and back, too.
        Due.is("many from 1", r.count(0, 1, 1, 12), FULL);
        r.drop(0);
        r.drop(0);
        r.drop(0);
        r.drop(0);
        Due.is("few from 0", r.count(0, 0, 0, 12), 0);
    }

    // ---- 19 and 20

    private static void step(SpeltRoutes r, int x, int v, int k, int... due) {
        for (int what = 0; what < 3; what++) {
            Due.is("STEP " + k + " what " + what, r.route(x, 0, v, k, what), due.length == 0 ? NONE : due[what]);
        }
    }

    /** 19: "STEP k .. (.. k from 0 on)"; "NONE: no ROUTE, no such STEP". */
    private static void stepsOfTheFirst() {
        SpeltRoutes r = ring("a+", "a*", "b", "A*");
        for (int k = 0; k < 10; k++) {
            step(r, 0, 0, k, k, 0, (k + 1) % 10);
            step(r, 3, 1, k, k < 9 ? new int[] {9 - k, 1, 9 - k} : new int[0]);
            step(r, 1, 0, k);
            step(r, 2, 0, k);
        }
        step(r, 0, 0, 10);
        step(r, 0, 0, Integer.MAX_VALUE);
        step(r, 0, 1, 0, 0, 0, 1);
        step(r, 0, 1, 1);
        Due.is("ahead of 0", r.route(0, 0, 0, -1, 0), BAD);
        Due.is("BAD where there is no ROUTE", r.route(2, 0, 0, -1, 0), BAD);
        Due.is("BAD where there is no STEP", r.route(1, 0, 0, 99, 3), BAD);
        Due.is("BAD", r.told(0), 3);
        Due.is("NO", r.told(1), 0);
    }

    /** 19: "along an EDGE ahead of back along one", though its number is greater. */
    private static void alongAheadOfBack() {
        SpeltRoutes r = Due.with(".|-", "(-|.)(-|.)");
        r.edge(1, 0, 0);
        step(r, 0, 1, 0, 0, 1, 1);
        r.edge(0, 3, 1);
        step(r, 0, 1, 0, 1, 0, 1);
        r.edge(1, 2, 2);
        r.edge(2, 2, 1);
        // The first STEP tells first: along 1 and then back along 3, not back along 0 and along 2.
        step(r, 1, 2, 0, 1, 0, 1);
        step(r, 1, 2, 1, 2, 0, 2);
        r.drop(2);
        step(r, 1, 2, 0, 1, 0, 1);
        step(r, 1, 2, 1, 2, 1, 2);
        r.anew();
        r.edge(0, 0, 0);
        step(r, 0, 0, 0, 0, 0, 0);
        step(r, 1, 0, 1, 0, 0, 0);
    }

    /** 19: "then by EDGES rising": by number, not by LETTER or VERTEX; the first STEP ahead of the second. */
    private static void edgesRising() {
        SpeltRoutes r = Due.with(".", "..", "--");
        r.edge(0, 3, 1);
        r.edge(0, 0, 1);
        step(r, 0, 1, 0, 0, 0, 1);
        r.edge(1, 1, 5);
        r.edge(0, 1, 2);
        r.edge(2, 0, 5);
        step(r, 1, 5, 0, 0, 0, 1);
        step(r, 1, 5, 1, 2, 0, 5);
        // With number 0 gone, its like of another LETTER is the first; then the way by 2 alone.
        r.drop(0);
        step(r, 1, 5, 0, 0, 0, 1);
        step(r, 1, 5, 1, 1, 0, 5);
        r.drop(0);
        step(r, 1, 5, 0, 1, 0, 2);
        step(r, 1, 5, 1, 2, 0, 5);
        r.anew();
        r.edge(5, 2, 7);
        r.edge(7, 1, 0);
        r.edge(6, 0, 0);
        r.edge(5, 0, 6);
        step(r, 2, 5, 0, 1, 1, 7);
        step(r, 2, 5, 1, 0, 1, 5);
    }

    /** 20: "The least EDGE such that, were it dropped, u, v would be no ANSWER": number 0, 29, the least of some. */
    private static void bridgesFirstAndLast() {
        SpeltRoutes r = Due.with("d", "dd", "D", "dD");
        for (int e = 0; e < 28; e++) {
            r.edge(e % 10, e / 10, 9 - e % 10);
        }
        r.edge(1, 3, 2);
        r.edge(0, 3, 1);
        Due.is("EDGES", r.told(4), 30);
        Due.is("the last", r.bridge(0, 0, 1), 29);
        Due.is("the least of two", r.bridge(1, 0, 2), 28);
        Due.is("back", r.bridge(2, 1, 0), 29);
        Due.is("along and back", r.bridge(3, 0, 0), 29);
        Due.is("EDGES stay", r.told(4), 30);
        Due.is("the last stays", r.of(29, 0), 0);
        Due.is("ANSWERS stay", r.answers(1, 0, 2), 1);
        r.anew();
        r.edge(0, 3, 1);
        Due.is("the first", r.bridge(0, 0, 1), 0);
        r.edge(1, 3, 2);
        Due.is("the least is first on the ROUTE", r.bridge(1, 0, 2), 0);
        r.drop(1);
        r.edge(5, 3, 5);
        Due.is("a loop", r.bridge(0, 5, 5), 1);
        Due.is("a loop gone twice", r.bridge(1, 5, 5), 1);
    }

    /** 20: "NONE: there is none, or it is none now". */
    private static void noBridge() {
        SpeltRoutes r = Due.with("(a|b)", "a*", "c", "(a|A)*");
        r.edge(0, 0, 1);
        r.edge(0, 1, 1);
        Due.is("two ways", r.bridge(0, 0, 1), NONE);
        Due.is("one way by another", r.bridge(1, 0, 1), 0);
        Due.is("without STEPS", r.bridge(1, 0, 0), NONE);
        Due.is("none now", r.bridge(2, 0, 1), NONE);
        Due.is("none now", r.bridge(1, 1, 0), NONE);
        Due.is("back", r.bridge(3, 1, 0), 0);
        r.drop(1);
        Due.is("one way left", r.bridge(0, 0, 1), 0);
        r.anew();
        Due.is("no EDGES", r.bridge(1, 3, 3), NONE);
        Due.is("no EDGES", r.bridge(0, 0, 1), NONE);
        Due.is("nothing is refused", r.told(0) + r.told(1) + r.told(2), 0);
    }

    // ---- 21 to 23

    /** 21: "EXPRESSION x stands (NONE: none does): how many ANSWERS it has (0). BAD; NO: none told." */
    private static void standsOrNone() {
        SpeltRoutes r = ring("b", "a*");
        Due.is("no ANSWERS", r.stand(0), 0);
        Due.is("it stands, though", r.standing(0), 0);
        Due.is("all", r.stand(1), 100);
        Due.is("NO", r.stand(2), NO);
        Due.is("BAD", r.stand(4), BAD);
        Due.is("BAD", r.stand(-2), BAD);
        Due.is("it stands still", r.standing(0), 1);
        Due.is("pairs", r.standing(1), 100);
        Due.is("none", r.stand(NONE), 0);
        Due.is("none", r.standing(0), NONE);
        Due.is("no pairs", r.standing(1), 0);
        Due.is("none, again", r.stand(NONE), 0);
        Due.is("none", r.told(6), NONE);
        r = new SpeltRoutes();
        Due.is("none told at all", r.stand(NONE), 0);
        Due.is("NO", r.told(1), 0);
    }

    /** 22: "how many came new since it stood (2), were lost (3)". */
    private static void sinceItStood() {
        SpeltRoutes r = Due.with("a", "a|b");
        r.edge(0, 0, 1);
        r.drop(0);
        r.stand(0);
        for (int k = 1; k <= 20; k++) {
            Due.is("new", r.edge(k % 10, 0, 0), 1);
            Due.is("came", r.standing(2), k);
            Due.is("lost", r.standing(3), k - 1);
            Due.is("gone", r.drop(0), 1);
            Due.is("lost", r.standing(3), k);
            Due.is("kept", r.standing(1), 0);
        }
        r.stand(1);
        Due.is("came", r.standing(2), 0);
        Due.is("lost", r.standing(3), 0);
        r.edge(0, 1, 0);
        Due.is("came", r.standing(2), 1);
        r.stand(1);
        Due.is("it stood again", r.standing(2), 0);
        r.edge(0, 1, 1);
        r.stand(NONE);
        Due.is("none stands", r.standing(2), 0);
        r.edge(0, 1, 2);
        Due.is("none stands", r.standing(2), 0);
        r.drop(0);
        Due.is("none stands", r.standing(3), 0);
        Due.is("BAD", r.standing(4), BAD);
        Due.is("BAD", r.standing(-1), BAD);
    }

    /** 23: "Whether a pair is kept: 1, 0. BAD; NO: none stands." */
    private static void keptPairs() {
        SpeltRoutes r = ring("a", "aa");
        Due.is("none stands", r.kept(0, 1), NO);
        r.stand(0);
        for (int u = 0; u < 10; u++) {
            for (int v = 0; v < 10; v++) {
                Due.is("kept", r.kept(u, v), v == (u + 1) % 10 ? 1 : 0);
            }
        }
        r.stand(1);
        Due.is("the other's", r.kept(9, 1), 1);
        Due.is("the other's", r.kept(9, 0), 0);
        r.drop(9);
        Due.is("lost", r.kept(9, 1), 0);
        r.stand(NONE);
        Due.is("none stands", r.kept(8, 0), NO);
        Due.is("BAD ahead of NO", r.kept(-1, 0), BAD);
    }

    // ---- 24

    /** 24: "n (0 .. 30) EDGES take the place of all"; "X is SEED (0 .. 999999) at first". */
    private static void drawnInPlaceOfAll() {
        for (int seed : new int[] {0, 1, 65535, 65536, 999998, 999999}) {
            for (int n = 0; n <= 30; n++) {
                SpeltRoutes r = BoundsTest.edges(30);
                Model m = new Model();
                Due.is("draw", r.draw(seed, n), m.draw(seed, n));
                Due.is("EDGES", r.told(4), m.edges.size());
                for (int e = 0; e < m.edges.size(); e++) {
                    for (int what = 0; what < 3; what++) {
                        Due.is("of", r.of(e, what), m.edges.get(e)[what]);
                    }
                }
                Due.is("no more", r.of(m.edges.size(), 0), BAD);
            }
        }
    }

    /** 24: "one that there is already is left out: how many there are"; those ahead of draw don't count. */
    private static void drawnTwiceIsLeftOut() {
        SpeltRoutes r = new SpeltRoutes();
        Due.is("all 30", r.draw(1, 30), 30);
        Due.is("no two alike", different(r), 30);
        Due.is("the same again", r.draw(1, 30), 30);
        Due.is("one left out", r.draw(7, 30), 29);
        Due.is("no two alike", different(r), 29);
        Due.is("room for one", r.edge(0, 0, 0), 0);
        Due.is("no room", r.edge(9, 3, 9), FULL);
        Due.is("the last one left out", r.draw(4, 30), r.draw(4, 29));
    }

    private static int different(SpeltRoutes r) {
        Set<Integer> all = new HashSet<>();
        for (int e = 0; e < r.told(4); e++) {
            all.add(r.of(e, 0) * 100 + r.of(e, 1) * 10 + r.of(e, 2));
        }
        return all.size();
    }

    /** 24, worked out by hand: X from 0 is 12345, then 1406932606, then 654583775. */
    private static void drawnByHand() {
        SpeltRoutes r = new SpeltRoutes();
        Due.is("draw", r.draw(0, 3), 3);
        int[] x = {12345, 1406932606, 654583775};
        for (int e = 0; e < 3; e++) {
            Due.is("from", r.of(e, 0), x[e] / 65536 % 10);
            Due.is("LETTER", r.of(e, 1), x[e] / 1024 % 4);
            Due.is("to", r.of(e, 2), x[e] / 4096 % 10);
        }
    }

    /** 24: "(ANSWERS now are kept likewise.)": nothing counts as new or lost. */
    private static void drawnWhileOneStands() {
        SpeltRoutes r = Due.with("(.|-)*", "a");
        r.stand(0);
        r.edge(0, 0, 1);
        r.edge(2, 0, 3);
        r.drop(0);
        Due.is("draw", r.draw(1, 30), 30);
        Due.is("ANSWERS now", r.standing(1), r.pairs(0));
        Due.holds("more", r.standing(1) > 12);
        Due.is("none", r.draw(5, 0), 0);
        Due.is("ANSWERS now", r.standing(1), 10);
        Due.is("came", r.standing(2), 4);
        Due.is("lost", r.standing(3), 2);
        Due.is("which", r.standing(0), 0);
        Due.is("BAD", r.draw(1000000, 30), BAD);
        Due.is("BAD", r.draw(0, 31), BAD);
        Due.is("it stays", r.standing(1), 10);
        r.stand(NONE);
        r.draw(0, 30);
        Due.is("none stands", r.standing(1), 0);
    }

    // ---- 25 and 26

    /** 25: each of the seven, at first, at its most, and BAD beyond. */
    private static void toldOfEach() {
        SpeltRoutes r = new SpeltRoutes();
        int[] first = {0, 0, 0, 0, 0, 0, NONE};
        for (int what = 0; what < 7; what++) {
            Due.is("at first " + what, r.told(what), first[what]);
        }
        Due.text(r, "a|".repeat(23) + "a");
        for (int x = 0; x < 4; x++) {
            Due.is("reads", r.reads(x), 24);
            Due.is("PLACES of all", r.told(5), 24 * (x + 1));
            r.stand(x);
            Due.is("stands", r.told(6), x);
        }
        Due.is("a smaller one", Due.reads(r, 2, "()"), 0);
        Due.is("PLACES of all", r.told(5), 72);
        r.draw(1, 30);
        Due.is("EDGES", r.told(4), 30);
        Due.text(r, "a".repeat(80));
        Due.is("bytes", r.told(3), 80);
        Due.is("a FAULT changes no PLACES", r.reads(0), -34);
        Due.is("PLACES of all", r.told(5), 72);
        Due.is("BAD", r.told(7), BAD);
        Due.is("BAD", r.told(-1), BAD);
        Due.is("itself counts", r.told(0), 2);
    }

    private static long after(long h, long... values) {
        for (long v : values) {
            h = 31 * h + v;
        }
        return h;
    }

    /** 26: without EDGES, "(-1: not told)" four times; () is told, and has PLACES and ANSWERS of its own. */
    private static void digestOfTheEmpty() {
        SpeltRoutes r = new SpeltRoutes();
        Due.is("new", r.digest(), after(1931, 0, 0, 0, 0, 0, 0, -1, -1, -1, -1, -1, 0, 0, 0));
        Due.reads(r, 3, "()");
        Due.is("()", r.digest(), after(1931, 0, 0, 0, 2, 0, 0, -1, -1, -1, -1, 10, 0, 0, 0));
        Due.reads(r, 0, "a");
        r.stand(3);
        Due.is("no ANSWERS is not -1", r.digest(), after(1931, 0, 0, 0, 1, 0, 1, 3, 0, -1, -1, 10, 10, 0, 0));
        r.told(7);
        r.pairs(1);
        r.pairs(1);
        Due.is("refused", r.digest(), after(1931, 1, 2, 0, 1, 0, 1, 3, 0, -1, -1, 10, 10, 0, 0));
    }

    /** 26: with 30 EDGES and all four told, by what the other calls answer. */
    private static void digestOfTheFull() {
        SpeltRoutes r = Due.with("(.|-)*", "a*b*", "()", "(aA|Bb)+");
        r.draw(1, 29);
        r.stand(3);
        r.edge(9, 1, 9);
        r.drop(4);
        r.edge(8, 1, 8);
        Due.text(r, "a".repeat(80));
        for (int k = 0; k < 3; k++) {
            r.type('a');
        }
        r.of(30, 0);
        r.edge(8, 1, 8);
        long h = 1931;
        for (int what = 0; what < 7; what++) {
            h = after(h, r.told(what));
        }
        for (int e = 0; e < 30; e++) {
            h = after(h, r.of(e, 0), r.of(e, 1), r.of(e, 2));
        }
        h = after(h, r.pairs(0), r.pairs(1), r.pairs(2), r.pairs(3));
        h = after(h, r.standing(1), r.standing(2), r.standing(3));
        Due.is("FULL", r.told(2), 3);
        Due.is("digest", r.digest(), h);
        Due.is("digest again", r.digest(), h);
    }
}
