/** Promises 21 to 23, and what 2, 3, 4, 9 and 24 say of STANDING answers. */
public final class StandingTest {
    public static void main(String[] args) {
        noneStands();
        comesAndGoes();
        nothingCounts();
        standsAnew();
        keptIsWhatAnswers();
        wrongNumbers();
        Due.end();
    }

    private static void isStanding(SpeltRoutes r, int which, int pairs, int came, int lost) {
        Due.is("which", r.standing(0), which);
        Due.is("told 6", r.told(6), which);
        Due.is("pairs", r.standing(1), pairs);
        Due.is("came", r.standing(2), came);
        Due.is("lost", r.standing(3), lost);
    }

    private static void noneStands() {
        SpeltRoutes r = Due.with("a*");
        isStanding(r, SpeltRoutes.NONE, 0, 0, 0);
        Due.is("edge", r.edge(0, 0, 1), 0);
        Due.is("drop", r.drop(0), 0);
        Due.is("kept", r.kept(0, 0), SpeltRoutes.NO);
        Due.is("stand none", r.stand(SpeltRoutes.NONE), 0);
        isStanding(r, SpeltRoutes.NONE, 0, 0, 0);
    }

    private static void comesAndGoes() {
        SpeltRoutes r = Due.with("a+", "()", "(a|A)*");
        r.edge(0, 0, 1);
        Due.is("stand", r.stand(0), 1);
        isStanding(r, 0, 1, 0, 0);
        Due.is("two new", r.edge(1, 0, 2), 2);
        Due.is("none new", r.edge(1, 1, 2), 0);
        Due.is("none new", r.edge(0, 0, 2), 0);
        isStanding(r, 0, 3, 2, 0);
        Due.is("a ring", r.edge(2, 0, 0), 6);
        isStanding(r, 0, 9, 8, 0);
        Due.is("refused", r.edge(2, 0, 0), SpeltRoutes.NO);
        isStanding(r, 0, 9, 8, 0);
        Due.is("one way less", r.drop(3), 0);
        Due.is("the ring is open", r.drop(1), 6);
        isStanding(r, 0, 3, 8, 6);
        Due.is("kept", r.kept(2, 1), 1);
        Due.is("not kept", r.kept(1, 2), 0);
        Due.is("refused", r.drop(9), SpeltRoutes.BAD);
        Due.is("drop", r.drop(0), 2);
        isStanding(r, 0, 1, 8, 8);
    }

    private static void nothingCounts() {
        SpeltRoutes r = Due.with("a", "b|c", "()", "a?");
        r.stand(0);
        r.edge(0, 0, 1);
        r.edge(2, 1, 3);
        isStanding(r, 0, 1, 1, 0);
        Due.is("anew", r.anew(), 2);
        isStanding(r, 0, 0, 1, 0);
        Due.is("kept", r.kept(0, 1), 0);
        r.edge(0, 0, 1);
        isStanding(r, 0, 1, 2, 0);
        Due.is("it becomes another", Due.reads(r, 0, "a*"), 1);
        isStanding(r, 0, 11, 2, 0);
        Due.is("kept", r.kept(5, 5), 1);
        Due.is("FAULT", Due.reads(r, 0, "a*|"), -13);
        isStanding(r, 0, 11, 2, 0);
        Due.is("another becomes", Due.reads(r, 1, "()"), 0);
        isStanding(r, 0, 11, 2, 0);
        Due.is("anew", r.anew(), 1);
        isStanding(r, 0, 10, 2, 0);
        int drawn = r.draw(7, 30);
        Due.is("drawn", drawn, 29);
        isStanding(r, 0, r.pairs(0), 2, 0);
        Due.holds("more pairs", r.standing(1) > 10);
        int had = r.standing(1);
        int lost = 0;
        for (int e = 28; e >= 0; e--) {
            lost += r.drop(e);
        }
        Due.is("all are lost", lost, had - 10);
        isStanding(r, 0, 10, 2, lost);
    }

    private static void standsAnew() {
        SpeltRoutes r = Due.with("a", "b");
        r.stand(0);
        r.edge(0, 0, 1);
        r.edge(0, 1, 1);
        r.drop(0);
        isStanding(r, 0, 0, 1, 1);
        Due.is("the other", r.stand(1), 1);
        isStanding(r, 1, 1, 0, 0);
        r.edge(3, 1, 3);
        isStanding(r, 1, 2, 1, 0);
        Due.is("refused", r.stand(2), SpeltRoutes.NO);
        isStanding(r, 1, 2, 1, 0);
        Due.is("the same again", r.stand(1), 2);
        isStanding(r, 1, 2, 0, 0);
        Due.is("none", r.stand(SpeltRoutes.NONE), 0);
        isStanding(r, SpeltRoutes.NONE, 0, 0, 0);
        Due.is("kept", r.kept(0, 1), SpeltRoutes.NO);
        Due.is("edge", r.edge(4, 1, 4), 0);
        isStanding(r, SpeltRoutes.NONE, 0, 0, 0);
    }

    private static void keptIsWhatAnswers() {
        String[] texts = {"a*b*", "(ab)+|c?", "(a|B)+c*", "-*d"};
        for (int x = 0; x < 4; x++) {
            SpeltRoutes r = Due.with(texts);
            r.draw(31 + x, 20);
            Due.is("stand", r.stand(x), r.pairs(x));
            r.drop(3);
            r.edge(x, x, x);
            for (int u = 0; u < 10; u++) {
                for (int v = 0; v < 10; v++) {
                    Due.is("kept", r.kept(u, v), r.answers(x, u, v));
                }
            }
        }
    }

    private static void wrongNumbers() {
        SpeltRoutes r = Due.with("a");
        r.stand(0);
        for (int w : new int[] {-2, 4, Integer.MAX_VALUE, Integer.MIN_VALUE}) {
            Due.is("stand", r.stand(w), SpeltRoutes.BAD);
            Due.is("standing", r.standing(w), SpeltRoutes.BAD);
        }
        Due.is("standing", r.standing(-1), SpeltRoutes.BAD);
        for (int w : new int[] {-1, 10, Integer.MAX_VALUE, Integer.MIN_VALUE}) {
            Due.is("kept u", r.kept(w, 0), SpeltRoutes.BAD);
            Due.is("kept v", r.kept(0, w), SpeltRoutes.BAD);
        }
        isStanding(r, 0, 0, 0, 0);
        r.stand(SpeltRoutes.NONE);
        Due.is("BAD ahead of NO", r.kept(10, 0), SpeltRoutes.BAD);
        Due.is("told BAD", r.told(0), 18);
        Due.is("told NO", r.told(1), 0);
    }
}
