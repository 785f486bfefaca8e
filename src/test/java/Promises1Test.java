import java.util.List;

/** The sentences of promises 1 to 13 that name a bound, each with a test of its own. */
public final class Promises1Test {
    private static final int NONE = SpeltRoutes.NONE, BAD = SpeltRoutes.BAD, NO = SpeltRoutes.NO;
    private static final int FULL = SpeltRoutes.FULL;

    public static void main(String[] args) {
        asTold();
        pairsThatAreNew();
        thirtyEdges();
        pairsThatAreLost();
        allEdgesGo();
        ofAnEdge();
        degrees();
        bytes();
        emptyAgain();
        becomesOrStays();
        standsAndBecomes();
        aboutNoneAndNothing();
        beginAndEnd();
        twoHundredStates();
        figures();
        howManyWords();
        fourHundredStates();
        shortestBeyond();
        fourHundredPairs();
        Due.end();
    }

    // ---- 1 to 6: the graph

    /** 1: "As told; no EDGES." */
    private static void asTold() {
        SpeltRoutes r = new SpeltRoutes();
        Due.is("EDGES", r.anew(), 0);
        Due.is("THE TEXT", r.clear(), 0);
        Due.is("an empty TEXT", r.reads(0), -10);
        Due.is("drop", r.drop(0), BAD);
        for (int x = 0; x < 4; x++) {
            Due.is("EXPRESSION " + x, r.about(x, 0), NONE);
            Due.is("EXPRESSION " + x, r.pairs(x), NO);
        }
        Due.is("none stands", r.kept(0, 0), NO);
        Due.is("refused BAD", r.told(0), 1);
        Due.is("refused NO", r.told(1), 5);
        Due.is("refused FULL", r.told(2), 0);
        // No object has anything of another one.
        SpeltRoutes other = new SpeltRoutes();
        Due.is("another's EDGES", other.told(4), 0);
        Due.is("another's BAD", other.told(0), 0);
    }

    /** A row of ten VERTICES that all can be gone through, but d stands nowhere yet. */
    private static SpeltRoutes rowWithoutD() {
        SpeltRoutes r = Due.with("(.|-)*d(.|-)*", "b", "a?");
        for (int v = 0; v < 9; v++) {
            r.edge(v, 0, v + 1);
        }
        return r;
    }

    /** 2: "how many pairs are new among the STANDING answers (0: none stand)": none, one, all. */
    private static void pairsThatAreNew() {
        SpeltRoutes r = rowWithoutD();
        Due.is("none stands", r.edge(4, 3, 4), 0);
        Due.is("drop", r.drop(9), 0);
        Due.is("stand", r.stand(0), 0);
        Due.is("all at once", r.edge(4, 3, 4), 100);
        Due.is("none any more", r.edge(5, 3, 5), 0);
        Due.is("came", r.standing(2), 100);
        r.stand(1);
        Due.is("one", r.edge(3, 1, 3), 1);
        Due.is("another sign", r.edge(3, 2, 3), 0);
        r.stand(NONE);
        Due.is("none stands any more", r.edge(4, 1, 4), 0);
        Due.is("came", r.standing(2), 0);
    }

    /** 2: "FULL: 30": the 30th comes, the 31st does not, and one that is dropped makes room for one. */
    private static void thirtyEdges() {
        SpeltRoutes r = Due.with("d");
        r.stand(0);
        for (int e = 0; e < 29; e++) {
            Due.is("edge " + e, r.edge(e % 10, e / 10, 5), 0);
        }
        Due.is("30th", r.edge(0, 3, 9), 1);
        Due.is("31st", r.edge(9, 3, 0), FULL);
        Due.is("EDGES", r.told(4), 30);
        Due.is("pairs", r.standing(1), 1);
        Due.is("drop", r.drop(0), 0);
        Due.is("30th again", r.edge(9, 3, 0), 1);
        Due.is("31st again", r.edge(8, 3, 0), FULL);
        Due.is("FULL", r.told(2), 2);
    }

    /** 3: "how many pairs are lost likewise"; "BAD: there is none of that number". */
    private static void pairsThatAreLost() {
        SpeltRoutes r = rowWithoutD();
        r.edge(4, 3, 4);
        r.edge(5, 3, 5);
        Due.is("stand", r.stand(0), 100);
        Due.is("none: another way is left", r.drop(9), 0);
        Due.is("all at once", r.drop(9), 100);
        Due.is("lost", r.standing(3), 100);
        Due.is("came", r.standing(2), 0);
        r.stand(2);
        Due.is("ten without STEPS, nine with one", r.standing(1), 19);
        for (int e = 8; e >= 0; e--) {
            Due.is("none of that number", r.drop(e + 1), BAD);
            Due.is("one", r.drop(e), 1);
        }
        Due.is("those without STEPS stay", r.standing(1), 10);
        Due.is("lost", r.standing(3), 9);
        Due.is("there is none", r.drop(0), BAD);
        r.stand(NONE);
        r.edge(0, 0, 1);
        Due.is("none stands", r.drop(0), 0);
        Due.is("lost", r.standing(3), 0);
    }

    /** 4: "how many there were. (ANSWERS without EDGES are kept then, if one stands; nothing counts ..)". */
    private static void allEdgesGo() {
        for (int many : new int[] {0, 1, 29, 30}) {
            SpeltRoutes r = BoundsTest.edges(many);
            Due.is("anew", r.anew(), many);
            Due.is("anew again", r.anew(), 0);
            Due.is("EDGES", r.told(4), 0);
            Due.is("none stands", r.standing(1), 0);
        }
        SpeltRoutes r = Due.with("a", "a?");
        for (int x = 0; x < 2; x++) {
            r.stand(x);
            r.edge(0, 0, 1);
            r.edge(2, 0, 3);
            r.drop(0);
            Due.is("anew", r.anew(), 1);
            Due.is("ANSWERS without EDGES", r.standing(1), x == 0 ? 0 : 10);
            Due.is("kept", r.kept(2, 3), 0);
            Due.is("kept", r.kept(2, 2), x);
            Due.is("it stands", r.standing(0), x);
            Due.is("came", r.standing(2), 2);
            Due.is("lost", r.standing(3), 1);
            Due.is("new again", r.edge(2, 0, 3), 1);
            Due.is("came", r.standing(2), 3);
            r.anew();
        }
    }

    /** 5: "from (0), LETTER (1), to (2). BAD." */
    private static void ofAnEdge() {
        SpeltRoutes r = new SpeltRoutes();
        r.edge(9, 3, 0);
        r.edge(0, 0, 9);
        int[][] due = {{9, 3, 0}, {0, 0, 9}};
        for (int e = 0; e < 2; e++) {
            for (int what = 0; what < 3; what++) {
                Due.is("of " + e, r.of(e, what), due[e][what]);
            }
            Due.is("of what", r.of(e, 3), BAD);
            Due.is("of what", r.of(e, -1), BAD);
        }
        Due.is("of e", r.of(2, 0), BAD);
        Due.is("of e", r.of(-1, 0), BAD);
    }

    /** 6: "EDGES of a VERTEX: from it (0), to it (1)": none, and all 30; one to itself is both. */
    private static void degrees() {
        SpeltRoutes r = new SpeltRoutes();
        for (int e = 0; e < 30; e++) {
            Due.is("from so far", r.degree(6, 0), e);
            r.edge(6, e / 10, e % 10);
        }
        Due.is("from", r.degree(6, 0), 30);
        Due.is("to itself", r.degree(6, 1), 3);
        for (int v = 0; v < 10; v++) {
            Due.is("to " + v, r.degree(v, 1), 3);
            Due.is("from " + v, r.degree(v, 0), v == 6 ? 30 : 0);
        }
        r.drop(6);
        Due.is("one less from", r.degree(6, 0), 29);
        Due.is("one less to", r.degree(6, 1), 2);
        r.anew();
        Due.is("none", r.degree(6, 0), 0);
    }

    // ---- 7 to 10: expressions

    /** 7: "A byte (0 .. 127) comes behind THE TEXT: how many it has. BAD; FULL: 80." */
    private static void bytes() {
        SpeltRoutes r = new SpeltRoutes();
        for (int n = 1; n <= 80; n++) {
            Due.is("too small", r.type(-1), BAD);
            Due.is("too large", r.type(128), BAD);
            Due.is("byte " + n, r.type(n % 2 == 0 ? 0 : 127), n);
            Due.is("bytes", r.told(3), n);
        }
        Due.is("81st", r.type(127), FULL);
        Due.is("81st", r.type(0), FULL);
        Due.is("too large", r.type(128), BAD);
        Due.is("bytes", r.told(3), 80);
    }

    /** 8: "THE TEXT is empty: how many it had"; EXPRESSIONS stay. */
    private static void emptyAgain() {
        SpeltRoutes r = Due.with("ab");
        Due.is("clear", r.clear(), 2);
        Due.is("clear", r.clear(), 0);
        Due.is("bytes", r.told(3), 0);
        Due.is("empty", r.reads(1), -10);
        Due.is("EXPRESSION", r.accepts(0, 2, 1), 1);
        Due.text(r, "|".repeat(80));
        Due.is("clear", r.clear(), 80);
        Due.is("one", r.type('c'), 1);
        Due.is("just that", r.reads(1), 1);
        Due.is("just that", r.accepts(1, 1, 2), 1);
    }

    /** 9: "EXPRESSION x becomes what THE TEXT tells: PLACES. BAD; -10 less the FAULT: it stays." */
    private static void becomesOrStays() {
        SpeltRoutes r = new SpeltRoutes();
        Due.is("the least PLACES", Due.reads(r, 0, "()"), 0);
        Due.is("the most PLACES", Due.reads(r, 0, "-".repeat(24)), 24);
        Due.is("the first FAULT", Due.reads(r, 0, ")"), -10);
        Due.is("the last byte", Due.reads(r, 0, " ".repeat(79) + ")"), -89);
        Due.is("the last FAULT", Due.reads(r, 0, "(".repeat(80)), -90);
        Due.is("it stays", r.about(0, 0), 24);
        Due.is("BAD ahead of a FAULT", r.reads(4), BAD);
        Due.is("BAD ahead of a FAULT", r.reads(-1), BAD);
        Due.is("a FAULT is not refused", r.told(0) + r.told(1) + r.told(2), 2);
        Due.is("one that is none stays none", r.reads(3), -90);
        Due.is("none", r.about(3, 0), NONE);
        // One TEXT may be read by all of them, and again.
        Due.text(r, "ab");
        for (int x = 0; x < 4; x++) {
            Due.is("reads", r.reads(x), 2);
            Due.is("reads again", r.reads(x), 2);
        }
        Due.is("no WORD", r.beyond(0, 3), NONE);
        Due.is("PLACES of all", r.told(5), 8);
        Due.is("THE TEXT stays", r.told(3), 2);
    }

    /** 9: "(If it stands, its ANSWERS now are kept; nothing counts as new or lost.)" */
    private static void standsAndBecomes() {
        SpeltRoutes r = Due.with("a", "b");
        r.stand(0);
        r.edge(0, 0, 1);
        r.edge(1, 1, 2);
        r.edge(5, 0, 5);
        r.drop(2);
        Due.is("another becomes", Due.reads(r, 1, "(.|-)*"), 2);
        Due.is("kept", r.standing(1), 1);
        Due.is("more pairs", Due.reads(r, 0, "(a|b)*"), 2);
        Due.is("kept", r.standing(1), 13);
        Due.is("kept", r.kept(0, 2), 1);
        Due.is("fewer pairs", Due.reads(r, 0, "c"), 1);
        Due.is("kept", r.standing(1), 0);
        Due.is("a FAULT", Due.reads(r, 0, "()|"), -13);
        Due.is("kept", r.standing(1), 0);
        Due.is("the same text", Due.reads(r, 0, "b"), 1);
        Due.is("the same text", r.reads(0), 1);
        Due.is("kept", r.kept(1, 2), 1);
        Due.is("came", r.standing(2), 2);
        Due.is("lost", r.standing(3), 1);
        Due.is("which", r.standing(0), 0);
        Due.is("new by the new one", r.edge(7, 1, 8), 1);
        Due.is("came", r.standing(2), 3);
    }

    /** 10: "PLACES (0; NONE: none told, as by all the others)": NONE is not nought. */
    private static void aboutNoneAndNothing() {
        SpeltRoutes r = new SpeltRoutes();
        for (int what = 0; what < 5; what++) {
            Due.is("none told", r.about(0, what), NONE);
        }
        Due.reads(r, 0, "()");
        int[] due = {0, 1, 0, 0, 2};
        for (int what = 0; what < 5; what++) {
            Due.is("() " + what, r.about(0, what), due[what]);
            Due.is("none told", r.about(1, what), NONE);
        }
        Due.is("NONE is not refused", r.told(1), 0);
        Due.is("BAD, none told", r.about(1, 5), BAD);
        Due.is("BAD, none told", r.about(1, -1), BAD);
    }

    private static void about(String text, int without, int begin, int end) {
        SpeltRoutes r = Due.with(text);
        Due.is("without signs: " + text, r.about(0, 1), without);
        Due.is("begin: " + text, r.about(0, 2), begin);
        Due.is("end: " + text, r.about(0, 3), end);
    }

    /** 10: "at how many PLACES a WORD can begin (2), end (3)": none, one, all 24. */
    private static void beginAndEnd() {
        about("()", 1, 0, 0);
        about("a", 0, 1, 1);
        about("a".repeat(24), 0, 1, 1);
        about("a|".repeat(23) + "a", 0, 24, 24);
        about("a?".repeat(24), 1, 24, 24);
        about("a*".repeat(23) + "a", 0, 24, 1);
        about("a" + "a*".repeat(23), 0, 1, 24);
        about("a+b+", 0, 1, 1);
        about("(a?b?c?)+", 1, 3, 3);
        about("(a?b)+", 0, 2, 1);
        about("(ab?)+", 0, 1, 2);
    }

    /** 10: "STATES (4; the empty set too, if WORDS lead there; FULL: more than 200)". */
    private static void twoHundredStates() {
        // With the empty set among them, and where no WORD leads there.
        String[] most = {"(.|A)*a(.|A)(.|A)(.|-).(.|A)(a|A)a|B*.-(.|-)", "(.|-)*a(.|-)..(.|-)(a|b)(a|A)(b|A)aA?(a|b)A"};
        String[] more = {"(.|A)*a(.|-)?(.|A)?(a|b)(.|A)(a|b)(a|b)(.|A)(a|A)|B*bA.",
            "(.|-)*a(a|A)(.|A)(.|A)(.|A)(.|A)(a|A)?b(b|A)|B*a-(b|A)"};
        for (int i = 0; i < 2; i++) {
            SpeltRoutes r = Due.with(most[i], more[i]);
            Due.is("so many", Model.statesBy(most[i], 100), 200);
            Due.is("one more", Model.statesBy(more[i], 100), 201);
            Due.is("200", r.about(0, 4), 200);
            Due.is("FULL", r.told(2), 0);
            Due.is("201", r.about(1, 4), FULL);
            Due.is("FULL", r.told(2), 1);
            Due.is("PLACES of it", r.about(1, 0), Tree.placesOf(more[i]));
        }
    }

    // ---- 11 to 13: words

    /** 11: "n figures, noughts ahead": the first figure is the first sign, for 0 to 9 of them. */
    private static void figures() {
        SpeltRoutes r = Due.with("a*b", "ba*", "D*", "a*");
        for (int n = 1, unit = 1; n <= 9; n++, unit *= 10) {
            Due.is("last", r.accepts(0, n, 1), 1);
            Due.is("last", r.accepts(0, n, unit), n == 1 ? 1 : 0);
            Due.is("first", r.accepts(1, n, unit), 1);
            Due.is("first", r.accepts(1, n, 1), n == 1 ? 1 : 0);
            Due.is("sevens", r.accepts(2, n, (int) (unit * 10L / 9 * 7)), 1);
            Due.is("noughts", r.accepts(3, n, 0), 1);
            Due.is("a figure more", r.accepts(3, n - 1, unit), BAD);
        }
        Due.is("none", r.accepts(0, 0, 0), 0);
        Due.is("none", r.accepts(2, 0, 0), 1);
    }

    /** 12: "How many WORDS of n (0 .. 9) signs are accepted (of all 8 signs)": none, one, all. */
    private static void howManyWords() {
        SpeltRoutes r = Due.with("(.|-)*", "()", "D*", "(.|-)+");
        for (int n = 0, all = 1; n <= 9; n++, all *= 8) {
            Due.is("all", r.words(0, n), all);
            Due.is("()", r.words(1, n), n == 0 ? 1 : 0);
            Due.is("D*", r.words(2, n), 1);
            Due.is("one or more", r.words(3, n), n == 0 ? 0 : all);
        }
        Due.is("one more", r.words(0, 10), BAD);
    }

    /** 12: "FULL: WORDS of n signs or fewer lead to more than 400 STATES", at n itself, the empty set or not. */
    private static void fourHundredStates() {
        most(8, "(a|b)*a(.|A)..(.|-)(.|-).(.|A)?(.|A).(a|b)");
        most(9, "(a*b)*b(a|b)?.(.|A)(a|b)..(a|b)?(b|A)..|ABbc?");
        most(9, "(.|-)*a(a|b)(a|b)-?(.|-).(.|-)(.|A)(a|b)a|-*A(.|A)");
        more(8, "(.|A)*a.?(.|A).(.|-)(b|A)?.(.|-)(.|A)(a|b)a|B*.(a|b)a");
        more(9, "(.|A)*a(a|A)?(.|A)(.|A)(.|-)(.|A)(.|-)(a|b)(a|A)a|-*A(b|A)");
        more(9, "(.|-)*a(.|-)(.|A)(.|A)(a|A)(a|A)(.|-)(a|A)-(.|-)");
    }

    private static void most(int n, String text) {
        SpeltRoutes r = Due.with(text);
        Due.is("so many", Model.statesBy(text, n), 400);
        Due.holds("400 by " + n, r.words(0, n) >= 0);
        Due.is("FULL", r.told(2), 0);
    }

    private static void more(int n, String text) {
        SpeltRoutes r = Due.with(text);
        Due.is("one more", Model.statesBy(text, n), 401);
        Due.is("401 by " + n, r.words(0, n), FULL);
        Due.holds("fewer by " + (n - 1), r.words(0, n - 1) >= 0);
        Due.is("FULL", r.told(2), 1);
        for (int longer = n + 1; longer <= 9; longer++) {
            Due.is("more by " + longer, r.words(0, longer), FULL);
        }
    }

    /** 13: "How many signs the shortest WORD has that x accepts and y does not; NONE: there is none." */
    private static void shortestBeyond() {
        SpeltRoutes r = Due.with("a*", "a+", "()", "a".repeat(24));
        Due.is("none of signs", r.beyond(0, 1), 0);
        Due.is("the other way", r.beyond(1, 0), NONE);
        Due.is("itself", r.beyond(2, 2), NONE);
        Due.is("()", r.beyond(2, 1), 0);
        Due.is("() in a*", r.beyond(2, 0), NONE);
        Due.is("one sign", r.beyond(0, 2), 1);
        Due.is("one sign", r.beyond(1, 2), 1);
        Due.is("24 in a*", r.beyond(3, 0), NONE);
        Due.is("24", r.beyond(3, 2), 24);
        Due.reads(r, 2, "b*");
        Due.is("24", r.beyond(3, 2), 24);
        // All rows of a but those that 3, 4 and 5 divide: longer than there are PLACES.
        Due.reads(r, 2, "(aaa)*aa?|(aaaa)*a(aa?)?|(aaaaa)*a(a(aa?)?)?");
        Due.is("60", r.beyond(1, 2), 60);
        Due.is("none of signs", r.beyond(0, 2), 0);
        Due.is("none", r.beyond(2, 1), NONE);
    }

    /** 13: "FULL (by how many signs, rising, told ahead of looking ..): .. more than 400 pairs of STATES". */
    private static void fourHundredPairs() {
        found(10, "(.|-)*a.(.|A)(.|A)?(.|A)(a|b)(.|-)a(.|-)(a|b)(a|b)", "()");
        found(10, "(.|-)*a(.|-)(.|-)(a|b)(a|b)...(a|A)A", "-*");
        found(8, "(a|b)*a.(.|-)(.|-)(.|-)(.|-)(a|b)(.|-)", "()");
        found(9, "(.|A)*a(a|b)?a(.|A)?(a|b)(.|A).(.|-)?(.|A)a(a|b)b", ".*");
        notLookedAt(10, "(.|-)*a(.|-)(a|b)(.|-)(.|A)(.|A)(.|A)(b|A)?-(.|-)-", "()");
        notLookedAt(11, "(.|-)*bb(.|A)(.|-)(.|A)(b|A)(a|A)?(b|A)(.|A)b(b|A)(.|A)", "-*");
        notLookedAt(8, "(.|-)*b(.|-)(.|A).(.|A)(.|A)..", "(.|-)*a");
        notLookedAt(9, "(.|-)*a(a|b)(.|-)(.|A)..(a|b)(.|A)b", "(ab)*");
        for (String text : List.of("(.|A)*a.?.(a|b).(.|-)(.|-)(.|-)b(b|A)|B*.?bb.-",
                "(.|-)*a(a|b)c?(.|-)(a|b).(a|b)..(b|A)|AB-c?")) {
            SpeltRoutes r = Due.with(text, text);
            int all = Model.statesBy(text, 100);
            Due.is("with its like, of " + all, r.beyond(0, 1), all == 400 ? NONE : FULL);
            Due.is("with itself, of " + all, r.beyond(0, 0), all == 400 ? NONE : FULL);
        }
    }

    /** The shortest WORD has n signs, by which there are just 400 pairs. */
    private static void found(int n, String x, String y) {
        SpeltRoutes r = Due.with(x, y);
        Due.is("so many", Model.pairsBy(x, y, n), 400);
        Due.is(x + " beyond " + y, r.beyond(0, 1), n);
        Due.is("FULL", r.told(2), 0);
    }

    /** As above, but with 401 pairs by n signs, and fewer than 400 by n - 1. */
    private static void notLookedAt(int n, String x, String y) {
        SpeltRoutes r = Due.with(x, y);
        Due.is("one more", Model.pairsBy(x, y, n), 401);
        Due.holds("fewer", Model.pairsBy(x, y, n - 1) < 400);
        Due.is(x + " beyond " + y, r.beyond(0, 1), FULL);
        Due.is("FULL", r.told(2), 1);
        Due.is("the same again", r.beyond(0, 1), FULL);
    }
}
