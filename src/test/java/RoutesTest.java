import java.util.ArrayList;
import java.util.List;

/** Promises 14 to 20: answers, ends, pairs, far, count, route, bridge. */
public final class RoutesTest {
    private static final String[] TEXTS = {"a(b|c)*d?", "(a|B)+c*", "(aA|Aa)*", ".*", "(.|-)(.|-)", "a?b?C?", "-+"};

    public static void main(String[] args) {
        byHand();
        byAllRoutes();
        orderOfRoutes();
        longRoute();
        bridges();
        countsEachRouteOnce();
        mostRoutes();
        mostStates();
        wrongNumbers();
        Due.end();
    }

    private static void byHand() {
        SpeltRoutes r = Due.with("ab", "aB", "A", "()");
        r.edge(0, 0, 1);
        r.edge(1, 1, 2);
        r.edge(3, 1, 1);
        Due.is("ab", r.answers(0, 0, 2), 1);
        Due.is("ab", r.answers(0, 0, 1), 0);
        Due.is("ab", r.answers(0, 2, 0), 0);
        Due.is("ab", r.ends(0, 0), 4);
        Due.is("ab", r.pairs(0), 1);
        Due.is("back along b", r.answers(1, 0, 3), 1);
        Due.is("back along b", r.ends(1, 0), 8);
        Due.is("back along a", r.answers(2, 1, 0), 1);
        Due.is("back along a", r.answers(2, 0, 1), 0);
        Due.is("no STEP", r.ends(3, 7), 128);
        Due.is("no STEP", r.pairs(3), 10);
        Due.is("no STEP", r.far(3, 7, 7), 0);
        Due.is("no STEP", r.far(3, 7, 6), SpeltRoutes.NONE);
        Due.is("no STEP to show", r.route(3, 7, 7, 0, 0), SpeltRoutes.NONE);
        Due.is("far", r.far(1, 0, 3), 2);
        Due.is("first EDGE", r.route(1, 0, 3, 0, 0), 0);
        Due.is("first way", r.route(1, 0, 3, 0, 1), 0);
        Due.is("first to", r.route(1, 0, 3, 0, 2), 1);
        Due.is("second EDGE", r.route(1, 0, 3, 1, 0), 2);
        Due.is("second way", r.route(1, 0, 3, 1, 1), 1);
        Due.is("second to", r.route(1, 0, 3, 1, 2), 3);
        Due.is("no third", r.route(1, 0, 3, 2, 0), SpeltRoutes.NONE);
        Due.is("far off", r.route(1, 0, 3, Integer.MAX_VALUE, 0), SpeltRoutes.NONE);
        Due.is("nothing is refused", r.told(0) + r.told(1) + r.told(2), 0);
    }

    private static List<List<Model.Step>> allRoutes(List<Model.Step> steps, int u, int n) {
        List<List<Model.Step>> all = new ArrayList<>();
        if (n == 0) {
            all.add(new ArrayList<>());
            return all;
        }
        for (List<Model.Step> head : allRoutes(steps, u, n - 1)) {
            int at = head.isEmpty() ? u : head.get(head.size() - 1).to();
            for (Model.Step s : steps) {
                if (s.from() == at) {
                    List<Model.Step> longer = new ArrayList<>(head);
                    longer.add(s);
                    all.add(longer);
                }
            }
        }
        return all;
    }

    /** Every route of up to four steps is spelt out and its word tried by the tree. */
    private static void byAllRoutes() {
        for (int seed = 0; seed < 6; seed++) {
            Model m = new Model();
            m.draw(seed * 1000 + 3, 14);
            for (int x = 0; x < TEXTS.length; x++) {
                for (int u = 0; u < 10; u += 3) {
                    SpeltRoutes r = Due.with(TEXTS[x]);
                    r.draw(seed * 1000 + 3, 14);
                    boolean[] found = new boolean[10];
                    for (int n = 0; n <= 4; n++) {
                        compare(r, allRoutes(m.steps(-1), u, n), Tree.of(TEXTS[x]), u, n, found);
                    }
                }
            }
        }
    }

    private static void compare(SpeltRoutes r, List<List<Model.Step>> all, Tree tree, int u, int n, boolean[] found) {
        int[] many = new int[10];
        List<List<Model.Step>> first = new ArrayList<>();
        for (int v = 0; v < 10; v++) {
            first.add(null);
        }
        for (List<Model.Step> route : all) {
            StringBuilder word = new StringBuilder();
            int at = u;
            for (Model.Step s : route) {
                word.append(s.sign());
                at = s.to();
            }
            if (tree.takes(word.toString())) {
                many[at]++;
                if (first.get(at) == null) {
                    first.set(at, route);
                }
            }
        }
        for (int v = 0; v < 10; v++) {
            Due.is("count " + n, r.count(0, u, v, n), many[v]);
            if (many[v] > 0 && !found[v]) {
                found[v] = true;
                isShortest(r, u, v, first.get(v));
            }
        }
    }

    private static void isShortest(SpeltRoutes r, int u, int v, List<Model.Step> route) {
        Due.is("far", r.far(0, u, v), route.size());
        Due.is("answers", r.answers(0, u, v), 1);
        Due.is("ends", r.ends(0, u) >> v & 1, 1);
        for (int k = 0; k < route.size(); k++) {
            Due.is("EDGE", r.route(0, u, v, k, 0), route.get(k).edge());
            Due.is("way", r.route(0, u, v, k, 1), route.get(k).way());
            Due.is("to", r.route(0, u, v, k, 2), route.get(k).to());
        }
        Due.is("no more", r.route(0, u, v, route.size(), 0), SpeltRoutes.NONE);
    }

    private static void orderOfRoutes() {
        SpeltRoutes r = Due.with("(.|-)(.|-)", "(A|b)a|ba");
        r.edge(2, 0, 0);
        r.edge(2, 0, 1);
        r.edge(0, 1, 3);
        r.edge(3, 0, 1);
        // Back along 0 and along 1, or along 2 and along 3: along is first, though 0 is less than 2.
        Due.is("along ahead of back", r.route(0, 0, 1, 0, 0), 2);
        Due.is("along ahead of back", r.route(0, 0, 1, 0, 1), 0);
        Due.is("then", r.route(0, 0, 1, 1, 0), 3);
        Due.is("not as the text has it", r.route(1, 0, 1, 0, 0), 2);
        r.drop(3);
        Due.is("the other", r.route(0, 0, 1, 0, 0), 0);
        Due.is("the other", r.route(0, 0, 1, 0, 1), 1);
        Due.is("the other", r.route(0, 0, 1, 1, 0), 1);
        Due.is("the other", r.route(0, 0, 1, 1, 1), 0);
        r.anew();
        r.edge(0, 3, 0);
        Due.is("a loop along", r.route(0, 0, 0, 0, 1), 0);
        Due.is("a loop counts twice", r.count(0, 0, 0, 2), 4);
    }

    /** A ring of 10 gone round by a row of 23 that repeats: the shortest ROUTE is far longer. */
    private static void longRoute() {
        SpeltRoutes r = Due.with("(" + "a".repeat(23) + ")*a");
        for (int v = 0; v < 10; v++) {
            r.edge(v, 0, (v + 1) % 10);
        }
        // 23 k + 1 STEPS: 10 divides them at k = 3.
        Due.is("far", r.far(0, 0, 0), 70);
        Due.is("far", r.far(0, 0, 8), 208);
        Due.is("last STEP", r.route(0, 0, 8, 207, 2), 8);
        Due.is("last EDGE", r.route(0, 0, 8, 207, 0), 7);
        Due.is("no more", r.route(0, 0, 8, 208, 0), SpeltRoutes.NONE);
        Due.is("all", r.pairs(0), 100);
        Due.is("all", r.ends(0, 4), 1023);
        Due.is("bridge", r.bridge(0, 0, 8), 0);
    }

    private static void bridges() {
        SpeltRoutes r = Due.with("a+", "(a|A)*");
        r.edge(0, 0, 1);
        r.edge(0, 0, 2);
        r.edge(1, 0, 3);
        r.edge(2, 0, 3);
        r.edge(3, 0, 4);
        r.edge(4, 0, 5);
        Due.is("two ways", r.bridge(0, 0, 3), SpeltRoutes.NONE);
        Due.is("the least", r.bridge(0, 0, 5), 4);
        Due.is("one way", r.bridge(0, 1, 5), 2);
        Due.is("no ANSWER", r.bridge(0, 5, 0), SpeltRoutes.NONE);
        Due.is("back", r.bridge(1, 5, 0), 4);
        Due.is("no STEP", r.bridge(1, 0, 0), SpeltRoutes.NONE);
        Due.is("EDGES stay", r.told(4), 6);
        Due.is("ANSWERS stay", r.answers(0, 0, 5), 1);
    }

    private static void countsEachRouteOnce() {
        SpeltRoutes r = Due.with("a|a", "(a|a)*(a|a)*", "(a*)*", "(a|.)(.|a)");
        r.edge(0, 0, 0);
        r.edge(0, 1, 0);
        Due.is("a|a", r.count(0, 0, 0, 1), 1);
        for (int n = 0; n <= 12; n++) {
            Due.is("a*", r.count(1, 0, 0, n), 1);
            Due.is("a*", r.count(2, 0, 0, n), 1);
        }
        Due.is("two of two", r.count(3, 0, 0, 2), 4);
        Due.is("elsewhere", r.count(3, 0, 1, 2), 0);
    }

    private static SpeltRoutes allLoops(String... texts) {
        SpeltRoutes r = Due.with(texts);
        for (int letter = 0; letter < 4; letter++) {
            r.edge(0, letter, 0);
        }
        return r;
    }

    private static void mostRoutes() {
        String eight = "(.|-)";
        String five = "(.|A)";
        SpeltRoutes r = allLoops(eight.repeat(3) + five.repeat(9), eight.repeat(4) + five.repeat(8), "(.|-)*", "A*");
        Due.is("512 times 5 to the 9", r.count(0, 0, 0, 12), 1000000000);
        Due.is("more", r.count(1, 0, 0, 12), SpeltRoutes.FULL);
        Due.is("8 to the 9", r.count(2, 0, 0, 9), 134217728);
        Due.is("8 to the 10", r.count(2, 0, 0, 10), SpeltRoutes.FULL);
        Due.is("8 to the 12", r.count(2, 0, 0, 12), SpeltRoutes.FULL);
        Due.is("one", r.count(3, 0, 0, 12), 1);
        Due.is("told FULL", r.told(2), 3);
        Due.reads(r, 3, "(.|-)(.|-)(.|-)(.|A)*");
        Due.is("as many as may be", r.count(3, 0, 0, 12), 1000000000);
        Due.reads(r, 3, "(.|-)(.|-)(.|-)(.|A)*|D*");
        Due.is("one more", r.count(3, 0, 0, 12), SpeltRoutes.FULL);
        Due.is("one more", r.count(3, 0, 0, 11), 200000001);
        // Many ROUTES that do not FIT in the end are not too many.
        Due.reads(r, 3, "(.|-)*ABCDABCDABCD");
        Due.is("one", r.count(3, 0, 0, 12), 1);
        // Too many on the way, but few of them end at 1.
        r.edge(1, 0, 2);
        r.edge(0, 1, 1);
        Due.reads(r, 3, "(.|-)*");
        Due.is("too many", r.count(3, 0, 0, 12), SpeltRoutes.FULL);
        Due.is("none from 9", r.count(3, 9, 0, 12), 0);
        // 30 EDGES among 3 VERTICES: more ROUTES than an int or a sum of ints can hold.
        r.anew();
        for (int e = 0; e < 30; e++) {
            r.edge(e / 4 % 3, e % 4, e / 12);
        }
        Due.is("edges", r.told(4), 30);
        for (int n = 8; n <= 12; n++) {
            Due.is("far too many", r.count(3, 0, 1, n), SpeltRoutes.FULL);
        }
    }

    private static void mostStates() {
        SpeltRoutes r = allLoops(WordsTest.STATES_400, WordsTest.STATES_401, WordsTest.NINE_400, WordsTest.NINE_401);
        Due.holds("400 in all", r.count(0, 0, 0, 12) >= 0);
        Due.is("401 in all", r.count(1, 0, 0, 12), SpeltRoutes.FULL);
        Due.holds("400 by 9", r.count(2, 0, 0, 9) >= 0);
        Due.is("more by 10", r.count(2, 0, 0, 10), SpeltRoutes.FULL);
        Due.is("401 by 9", r.count(3, 0, 0, 9), SpeltRoutes.FULL);
        Due.holds("fewer by 8", r.count(3, 0, 0, 8) >= 0);
        // Too many STATES even where no ROUTE ends, and few where ROUTES do not spell them.
        Due.is("no end", r.count(1, 0, 5, 12), SpeltRoutes.FULL);
        Due.is("no STEPS", r.count(1, 5, 5, 12), 0);
        for (int n = 0; n <= 9; n++) {
            Due.is("as words", r.count(3, 0, 0, n), n < 9 ? r.words(3, n) : SpeltRoutes.FULL);
        }
    }

    private static void wrongNumbers() {
        SpeltRoutes r = Due.with("a");
        int bads = 0;
        for (int w : new int[] {-1, 10, Integer.MAX_VALUE, Integer.MIN_VALUE}) {
            for (int x = 0; x < 2; x++) {
                Due.is("answers u", r.answers(x, w, 0), SpeltRoutes.BAD);
                Due.is("answers v", r.answers(x, 0, w), SpeltRoutes.BAD);
                Due.is("ends u", r.ends(x, w), SpeltRoutes.BAD);
                Due.is("far u", r.far(x, w, 0), SpeltRoutes.BAD);
                Due.is("far v", r.far(x, 0, w), SpeltRoutes.BAD);
                Due.is("count u", r.count(x, w, 0, 1), SpeltRoutes.BAD);
                Due.is("count v", r.count(x, 0, w, 1), SpeltRoutes.BAD);
                Due.is("route u", r.route(x, w, 0, 0, 0), SpeltRoutes.BAD);
                Due.is("route v", r.route(x, 0, w, 0, 0), SpeltRoutes.BAD);
                Due.is("route what", r.route(x, 0, 0, 0, w), SpeltRoutes.BAD);
                Due.is("bridge u", r.bridge(x, w, 0), SpeltRoutes.BAD);
                Due.is("bridge v", r.bridge(x, 0, w), SpeltRoutes.BAD);
                bads += 12;
            }
        }
        for (int x : new int[] {-1, 4, Integer.MAX_VALUE, Integer.MIN_VALUE}) {
            Due.is("answers x", r.answers(x, 0, 0), SpeltRoutes.BAD);
            Due.is("ends x", r.ends(x, 0), SpeltRoutes.BAD);
            Due.is("pairs x", r.pairs(x), SpeltRoutes.BAD);
            Due.is("far x", r.far(x, 0, 0), SpeltRoutes.BAD);
            Due.is("count x", r.count(x, 0, 0, 0), SpeltRoutes.BAD);
            Due.is("route x", r.route(x, 0, 0, 0, 0), SpeltRoutes.BAD);
            Due.is("bridge x", r.bridge(x, 0, 0), SpeltRoutes.BAD);
            bads += 7;
        }
        Due.is("count n", r.count(0, 0, 0, 13), SpeltRoutes.BAD);
        Due.is("count n", r.count(1, 0, 0, -1), SpeltRoutes.BAD);
        Due.is("route k", r.route(1, 0, 0, -1, 0), SpeltRoutes.BAD);
        Due.is("route what", r.route(0, 0, 0, 0, 3), SpeltRoutes.BAD);
        Due.is("told NO", r.told(1), 0);
        Due.is("answers of none", r.answers(1, 0, 0), SpeltRoutes.NO);
        Due.is("ends of none", r.ends(1, 0), SpeltRoutes.NO);
        Due.is("pairs of none", r.pairs(1), SpeltRoutes.NO);
        Due.is("far of none", r.far(1, 0, 0), SpeltRoutes.NO);
        Due.is("count of none", r.count(1, 0, 0, 0), SpeltRoutes.NO);
        Due.is("route of none", r.route(1, 0, 0, 0, 0), SpeltRoutes.NO);
        Due.is("bridge of none", r.bridge(1, 0, 0), SpeltRoutes.NO);
        Due.is("told NO", r.told(1), 7);
        Due.is("told BAD", r.told(0), bads + 4);
    }
}
