/** Promises 25 and 26: told, digest. */
public final class ToldTest {
    public static void main(String[] args) {
        howOften();
        whatThereIs();
        digestOfNothing();
        digestOfMuch();
        digestChangesNothing();
        Due.end();
    }

    private static void howOften() {
        SpeltRoutes r = new SpeltRoutes();
        Due.is("told", r.told(7), SpeltRoutes.BAD);
        Due.is("told", r.told(-1), SpeltRoutes.BAD);
        Due.is("told", r.told(Integer.MIN_VALUE), SpeltRoutes.BAD);
        Due.is("BAD", r.told(0), 3);
        r.edge(0, 0, 10);
        r.drop(0);
        r.type(128);
        r.draw(-1, 0);
        Due.is("BAD", r.told(0), 7);
        r.pairs(0);
        r.stand(1);
        r.kept(0, 0);
        Due.is("NO", r.told(1), 3);
        for (int i = 0; i < 83; i++) {
            r.type('|');
        }
        Due.is("FULL", r.told(2), 3);
        r.reads(0);
        r.about(0, 0);
        Due.is("BAD", r.told(0), 7);
        Due.is("NO", r.told(1), 3);
        Due.is("FULL", r.told(2), 3);
    }

    private static void whatThereIs() {
        SpeltRoutes r = Due.with("a", "bc", "()", "(a|b|c|d)*");
        Due.is("bytes", r.told(3), 10);
        Due.is("PLACES", r.told(5), 7);
        r.edge(0, 0, 0);
        r.edge(0, 1, 0);
        Due.is("EDGES", r.told(4), 2);
        r.stand(2);
        Due.is("stands", r.told(6), 2);
        Due.reads(r, 3, ".*");
        Due.is("PLACES", r.told(5), 4);
        Due.is("nothing is refused", r.told(0) + r.told(1) + r.told(2), 0);
    }

    private static long of(long... values) {
        long h = 1931;
        for (long v : values) {
            h = 31 * h + v;
        }
        return h;
    }

    private static void digestOfNothing() {
        Due.is("digest", new SpeltRoutes().digest(), of(0, 0, 0, 0, 0, 0, -1, -1, -1, -1, -1, 0, 0, 0));
    }

    private static void digestOfMuch() {
        SpeltRoutes r = Due.with("a", "()");
        r.stand(0);
        r.edge(3, 0, 4);
        r.edge(9, 2, 8);
        r.edge(3, 0, 4);
        r.edge(3, 0, 40);
        r.edge(5, 0, 6);
        r.drop(0);
        r.pairs(3);
        r.clear();
        r.type('x');
        Due.is("digest", r.digest(), of(1, 2, 0, 1, 2, 1, 0, 9, 2, 8, 5, 0, 6, 1, 10, -1, -1, 1, 2, 1));
        Due.is("FULL", Due.reads(r, 3, ".*a........."), 11);
        r.about(3, 4);
        r.stand(SpeltRoutes.NONE);
        // .* of two EDGES with letters c and a: 0 ends behind a and nine more, so there are none.
        Due.is("digest", r.digest(), of(1, 2, 1, 12, 2, 12, -1, 9, 2, 8, 5, 0, 6, 1, 10, -1, 0, 0, 0, 0));
    }

    private static void digestChangesNothing() {
        SpeltRoutes r = Due.with("(.|-)*", "a*b*", "(ab)+|c?");
        r.draw(7, 30);
        r.stand(1);
        long one = r.digest();
        for (int i = 0; i < 5; i++) {
            Due.is("digest", r.digest(), one);
        }
        r.told(9);
        Due.holds("another", r.digest() != one);
    }
}
