import java.util.List;
import java.util.function.Supplier;

/**
 * Every number that every call takes: the last one that is as told and the first one that is not, on
 * both sides, with the greatest and the least int. Each is tried on objects of its own: a new one, one
 * with some of all, and one that is full, so that BAD also comes ahead of NO and of FULL.
 */
public final class BoundsTest {
    private interface Call {
        int of(SpeltRoutes r, int n);
    }

    private static final int MOST_INT = Integer.MAX_VALUE;
    private static final int LEAST_INT = Integer.MIN_VALUE;

    public static void main(String[] args) {
        graph();
        edgeNumbers();
        text();
        words();
        codes();
        routes();
        standing();
        drawn();
        Due.end();
    }

    // ---- the objects

    private static SpeltRoutes some() {
        SpeltRoutes r = Due.with("a(b|c)*", "(a|B)*", ".*a", "()");
        r.draw(7, 12);
        r.stand(1);
        return r;
    }

    /** 30 EDGES, 80 bytes, and EXPRESSIONS with more STATES than are counted. */
    static SpeltRoutes full() {
        SpeltRoutes r = Due.with(".*a.........", ".*a.........", "(.|-)*", "a");
        r.draw(7, 30);
        r.edge(0, 0, 0);
        Due.is("30 EDGES", r.told(4), 30);
        r.stand(0);
        Due.text(r, "a".repeat(80));
        return r;
    }

    // ---- what is tried

    private static void each(String name, int least, int most, Call call) {
        for (Supplier<SpeltRoutes> made : List.<Supplier<SpeltRoutes>>of(SpeltRoutes::new, BoundsTest::some,
                BoundsTest::full)) {
            between(name, least, most, made, call);
        }
    }

    private static void between(String name, int least, int most, Supplier<SpeltRoutes> made, Call call) {
        // All of a short row; of a long one, those at its ends.
        for (int n = least; n <= most && n - least <= 130; n++) {
            isTaken(name, n, made, call);
        }
        isTaken(name, most, made, call);
        isTaken(name, Math.max(least, most - 1), made, call);
        noneBeyond(name, least, most, made, call);
    }

    private static void noneBeyond(String name, int least, int most, Supplier<SpeltRoutes> made, Call call) {
        isBad(name, least - 1, made, call);
        isBad(name, least - 2, made, call);
        isBad(name, LEAST_INT, made, call);
        if (most < MOST_INT) {
            isBad(name, most + 1, made, call);
            isBad(name, MOST_INT, made, call);
        }
    }

    private static void isTaken(String name, int n, Supplier<SpeltRoutes> made, Call call) {
        SpeltRoutes r = made.get();
        Due.holds(name + " " + n + " is taken", call.of(r, n) != SpeltRoutes.BAD);
        Due.is(name + " " + n + " counts as BAD", r.told(0), 0);
    }

    private static void isBad(String name, int n, Supplier<SpeltRoutes> made, Call call) {
        SpeltRoutes r = made.get();
        int no = r.told(1);
        int full = r.told(2);
        Due.is(name + " " + n, call.of(r, n), SpeltRoutes.BAD);
        Due.is(name + " " + n + " counts as BAD", r.told(0), 1);
        Due.is(name + " " + n + " counts as NO", r.told(1), no);
        Due.is(name + " " + n + " counts as FULL", r.told(2), full);
    }

    // ---- promises 2 to 6

    private static void graph() {
        each("edge u", 0, 9, (r, n) -> r.edge(n, 0, 0));
        each("edge letter", 0, 3, (r, n) -> r.edge(0, n, 0));
        each("edge v", 0, 9, (r, n) -> r.edge(0, 0, n));
        each("degree v", 0, 9, (r, n) -> r.degree(n, 0));
        each("degree what", 0, 1, (r, n) -> r.degree(0, n));
        between("of what", 0, 2, BoundsTest::some, (r, n) -> r.of(0, n));
        between("of what", 0, 2, BoundsTest::full, (r, n) -> r.of(29, n));
    }

    /** How far the EDGES' numbers go depends on how many there are. */
    private static void edgeNumbers() {
        Call drop = (r, n) -> r.drop(n);
        Call of = (r, n) -> r.of(n, 0);
        noneBeyond("drop of none", 0, -1, SpeltRoutes::new, drop);
        noneBeyond("of of none", 0, -1, SpeltRoutes::new, of);
        for (int many = 1; many <= 30; many++) {
            int last = many - 1;
            between("drop", 0, last, () -> edges(last + 1), drop);
            between("of", 0, last, () -> edges(last + 1), of);
        }
    }

    static SpeltRoutes edges(int many) {
        SpeltRoutes r = new SpeltRoutes();
        for (int e = 0; e < many; e++) {
            r.edge(e % 10, e / 10, 9 - e % 10);
        }
        return r;
    }

    // ---- promises 7 to 13

    private static void text() {
        each("type", 0, 127, (r, n) -> r.type(n));
        each("reads", 0, 3, (r, n) -> r.reads(n));
        for (int what = 0; what < 5; what++) {
            int w = what;
            each("about x", 0, 3, (r, n) -> r.about(n, w));
        }
        for (int x = 0; x < 4; x++) {
            int y = x;
            each("about what", 0, 4, (r, n) -> r.about(y, n));
        }
    }

    private static void words() {
        each("accepts x", 0, 3, (r, n) -> r.accepts(n, 3, 123));
        each("accepts n", 0, 9, (r, n) -> r.accepts(0, n, 0));
        each("words x", 0, 3, (r, n) -> r.words(n, 9));
        each("words n", 0, 9, (r, n) -> r.words(0, n));
        for (int x = 0; x < 4; x++) {
            int y = x;
            each("beyond x", 0, 3, (r, n) -> r.beyond(n, y));
            each("beyond y", 0, 3, (r, n) -> r.beyond(y, n));
        }
    }

    /** "n figures, noughts ahead, each a LETTER or CAPITAL (0 .. 7)"; "BAD: more figures, a figure 8, 9, too". */
    private static void codes() {
        Supplier<SpeltRoutes> made = BoundsTest::some;
        for (int n = 0, ten = 1; n <= 9; n++, ten *= 10) {
            int signs = n;
            Call call = (r, code) -> r.accepts(1, signs, code);
            String name = "accepts " + n + " code";
            isTaken(name, 0, made, call);
            isTaken(name, ten / 9 * 7, made, call);
            for (int code : new int[] {-1, -2, LEAST_INT, ten, MOST_INT}) {
                isBad(name, code, made, call);
                isBad(name, code, SpeltRoutes::new, call);
            }
            for (int k = 0, unit = 1; k < n; k++, unit *= 10) {
                isTaken(name, unit * 7, made, call);
                isBad(name, unit * 8, made, call);
                isBad(name, unit * 9, made, call);
                isBad(name, ten / 9 * 7 + unit, made, call);
                isBad(name, ten / 9 * 7 + unit * 2, made, call);
            }
        }
    }

    // ---- promises 14 to 20

    private static void routes() {
        each("answers x", 0, 3, (r, n) -> r.answers(n, 0, 0));
        each("answers u", 0, 9, (r, n) -> r.answers(0, n, 0));
        each("answers v", 0, 9, (r, n) -> r.answers(0, 0, n));
        each("ends x", 0, 3, (r, n) -> r.ends(n, 0));
        each("ends u", 0, 9, (r, n) -> r.ends(0, n));
        each("pairs x", 0, 3, (r, n) -> r.pairs(n));
        each("far x", 0, 3, (r, n) -> r.far(n, 0, 0));
        each("far u", 0, 9, (r, n) -> r.far(0, n, 0));
        each("far v", 0, 9, (r, n) -> r.far(0, 0, n));
        each("count x", 0, 3, (r, n) -> r.count(n, 0, 0, 12));
        each("count u", 0, 9, (r, n) -> r.count(0, n, 0, 12));
        each("count v", 0, 9, (r, n) -> r.count(0, 0, n, 12));
        each("count n", 0, 12, (r, n) -> r.count(0, 0, 0, n));
        each("count n", 0, 12, (r, n) -> r.count(2, 0, 0, n));
        each("route x", 0, 3, (r, n) -> r.route(n, 0, 0, 0, 0));
        each("route u", 0, 9, (r, n) -> r.route(0, n, 0, 0, 0));
        each("route v", 0, 9, (r, n) -> r.route(0, 0, n, 0, 0));
        each("route k", 0, MOST_INT, (r, n) -> r.route(1, 0, 0, n, 0));
        each("route what", 0, 2, (r, n) -> r.route(0, 0, 0, 0, n));
        // A STEP that there is not is NONE, but not with a what that there is not.
        each("route what", 0, 2, (r, n) -> r.route(1, 0, 0, MOST_INT, n));
        each("bridge x", 0, 3, (r, n) -> r.bridge(n, 0, 0));
        each("bridge u", 0, 9, (r, n) -> r.bridge(0, n, 0));
        each("bridge v", 0, 9, (r, n) -> r.bridge(0, 0, n));
    }

    // ---- promises 21 to 23

    private static void standing() {
        each("stand x or NONE", -1, 3, (r, n) -> r.stand(n));
        each("standing what", 0, 3, (r, n) -> r.standing(n));
        each("kept u", 0, 9, (r, n) -> r.kept(n, 0));
        each("kept v", 0, 9, (r, n) -> r.kept(0, n));
    }

    // ---- promises 24 and 25

    private static void drawn() {
        each("draw seed", 0, 999999, (r, n) -> r.draw(n, 1));
        each("draw seed", 0, 999999, (r, n) -> r.draw(n, 0));
        each("draw n", 0, 30, (r, n) -> r.draw(0, n));
        each("draw n", 0, 30, (r, n) -> r.draw(999999, n));
        each("told what", 0, 6, (r, n) -> r.told(n) == SpeltRoutes.BAD ? SpeltRoutes.BAD : 0);
    }
}
