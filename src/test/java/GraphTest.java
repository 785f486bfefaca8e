/** Promises 1 to 6 and 24: a new object, edge, drop, anew, of, degree, draw. */
public final class GraphTest {
    public static void main(String[] args) {
        newObject();
        edgesComeAndGo();
        refusedInOrder();
        fullAtThirty();
        all();
        degrees();
        drawn();
        drawnAtItsEdges();
        Due.end();
    }

    private static void newObject() {
        SpeltRoutes r = new SpeltRoutes();
        for (int what = 0; what < 6; what++) {
            Due.is("new told " + what, r.told(what), 0);
        }
        Due.is("new told 6", r.told(6), SpeltRoutes.NONE);
        for (int x = 0; x < 4; x++) {
            for (int what = 0; what < 5; what++) {
                Due.is("new about", r.about(x, what), SpeltRoutes.NONE);
            }
        }
        Due.is("new standing 0", r.standing(0), SpeltRoutes.NONE);
        for (int what = 1; what < 4; what++) {
            Due.is("new standing", r.standing(what), 0);
        }
        for (int v = 0; v < 10; v++) {
            Due.is("new degree", r.degree(v, 0) + r.degree(v, 1), 0);
        }
        Due.is("new of", r.of(0, 0), SpeltRoutes.BAD);
    }

    private static void isEdge(SpeltRoutes r, int e, int u, int letter, int v) {
        Due.is("from of " + e, r.of(e, 0), u);
        Due.is("letter of " + e, r.of(e, 1), letter);
        Due.is("to of " + e, r.of(e, 2), v);
    }

    private static void edgesComeAndGo() {
        SpeltRoutes r = new SpeltRoutes();
        Due.is("edge", r.edge(0, 3, 9), 0);
        Due.is("edge", r.edge(9, 3, 0), 0);
        Due.is("loop", r.edge(5, 0, 5), 0);
        Due.is("other letter", r.edge(0, 2, 9), 0);
        isEdge(r, 0, 0, 3, 9);
        isEdge(r, 1, 9, 3, 0);
        isEdge(r, 2, 5, 0, 5);
        isEdge(r, 3, 0, 2, 9);
        Due.is("drop", r.drop(1), 0);
        isEdge(r, 0, 0, 3, 9);
        isEdge(r, 1, 5, 0, 5);
        isEdge(r, 2, 0, 2, 9);
        Due.is("of one gone", r.of(3, 0), SpeltRoutes.BAD);
        Due.is("drop of none", r.drop(3), SpeltRoutes.BAD);
        Due.is("drop last", r.drop(2), 0);
        Due.is("drop first", r.drop(0), 0);
        isEdge(r, 0, 5, 0, 5);
        Due.is("again", r.edge(0, 3, 9), 0);
        isEdge(r, 1, 0, 3, 9);
    }

    private static void refusedInOrder() {
        SpeltRoutes r = new SpeltRoutes();
        int[] wrong = {-1, 10, Integer.MAX_VALUE, Integer.MIN_VALUE};
        for (int w : wrong) {
            Due.is("edge u", r.edge(w, 0, 0), SpeltRoutes.BAD);
            Due.is("edge v", r.edge(0, 0, w), SpeltRoutes.BAD);
            Due.is("edge letter", r.edge(0, w, 0), SpeltRoutes.BAD);
            Due.is("drop", r.drop(w), SpeltRoutes.BAD);
            Due.is("of", r.of(w, 0), SpeltRoutes.BAD);
            Due.is("degree v", r.degree(w, 0), SpeltRoutes.BAD);
            Due.is("degree what", r.degree(0, w), SpeltRoutes.BAD);
        }
        Due.is("letter 4", r.edge(0, 4, 0), SpeltRoutes.BAD);
        r.edge(0, 0, 0);
        Due.is("of what", r.of(0, 3), SpeltRoutes.BAD);
        Due.is("of what", r.of(0, -1), SpeltRoutes.BAD);
        Due.is("degree what", r.degree(0, 2), SpeltRoutes.BAD);
        Due.is("told of edges", r.told(4), 1);
    }

    private static void fullAtThirty() {
        SpeltRoutes r = new SpeltRoutes();
        for (int e = 0; e < 30; e++) {
            Due.is("edge " + e, r.edge(e % 10, e / 10, (e * 7 + 1) % 10), 0);
        }
        Due.is("31st", r.edge(0, 3, 0), SpeltRoutes.FULL);
        Due.is("BAD ahead of FULL", r.edge(0, 4, 0), SpeltRoutes.BAD);
        Due.is("NO ahead of FULL", r.edge(0, 0, 1), SpeltRoutes.NO);
        Due.is("edges", r.told(4), 30);
        Due.is("drop 30", r.drop(30), SpeltRoutes.BAD);
        Due.is("drop 29", r.drop(29), 0);
        Due.is("room again", r.edge(0, 3, 0), 0);
        isEdge(r, 29, 0, 3, 0);
    }

    private static void all() {
        SpeltRoutes r = new SpeltRoutes();
        Due.is("anew of none", r.anew(), 0);
        r.edge(1, 1, 1);
        r.edge(2, 2, 2);
        Due.is("anew", r.anew(), 2);
        Due.is("edges", r.told(4), 0);
        Due.is("of", r.of(0, 0), SpeltRoutes.BAD);
        Due.is("edge again", r.edge(1, 1, 1), 0);
    }

    private static void degrees() {
        SpeltRoutes r = new SpeltRoutes();
        r.edge(3, 0, 3);
        r.edge(3, 0, 4);
        r.edge(4, 1, 3);
        r.edge(3, 1, 4);
        Due.is("from 3", r.degree(3, 0), 3);
        Due.is("to 3", r.degree(3, 1), 2);
        Due.is("from 4", r.degree(4, 0), 1);
        Due.is("to 4", r.degree(4, 1), 2);
        Due.is("from 9", r.degree(9, 0), 0);
    }

    private static void drawn() {
        for (int seed : new int[] {0, 1, 7, 4242, 77777, 999999}) {
            for (int n : new int[] {0, 1, 17, 30}) {
                SpeltRoutes r = new SpeltRoutes();
                Model m = new Model();
                r.edge(9, 3, 9);
                Due.is("draw " + seed, r.draw(seed, n), m.draw(seed, n));
                Due.is("edges", r.told(4), m.edges.size());
                for (int e = 0; e < m.edges.size(); e++) {
                    int[] due = m.edges.get(e);
                    isEdge(r, e, due[0], due[1], due[2]);
                }
            }
        }
        // By hand: 0 times 1103515245 and 12345 is 12345: from 0, LETTER 12 by 4, to 3.
        SpeltRoutes r = new SpeltRoutes();
        Due.is("draw", r.draw(0, 1), 1);
        isEdge(r, 0, 0, 0, 3);
        // Seed 7 draws one EDGE twice.
        Due.is("draw", r.draw(7, 30), 29);
    }

    private static void drawnAtItsEdges() {
        SpeltRoutes r = new SpeltRoutes();
        r.edge(1, 1, 1);
        Due.is("seed", r.draw(1000000, 1), SpeltRoutes.BAD);
        Due.is("seed", r.draw(-1, 1), SpeltRoutes.BAD);
        Due.is("n", r.draw(0, 31), SpeltRoutes.BAD);
        Due.is("n", r.draw(0, -1), SpeltRoutes.BAD);
        isEdge(r, 0, 1, 1, 1);
        Due.is("draw none", r.draw(999999, 0), 0);
        Due.is("edges", r.told(4), 0);
    }
}
