/** Promises 11 to 13: accepts, words, beyond. */
public final class WordsTest {
    /** Texts with just so many STATES, and with just so many by WORDS of 9 signs or fewer. */
    static final String STATES_400 = "(.|A)*a.?.(a|b).(.|-)(.|-)(.|-)b(b|A)|B*.?bb.-";
    static final String STATES_401 = "(.|-)*a(a|b)c?(.|-)(a|b).(a|b)..(b|A)|AB-c?";
    static final String NINE_400 = "(a|b)*a(.|-)(a|b)(.|-)(.|-)..a(a|b).|-*Aa.?(.|-)";
    static final String NINE_401 = ".*b(a|b)(a|b)(a|b)(.|-)(a|b)(.|-).ac?|-*A-";

    private static final String[] TEXTS = {"a", "()", "(a|b)*", "(ab)+|c?", "a(b|c)*d?", "(.|-)*a.", "-+.?",
        "(a?b?)+", "((a|b)+c)*", "(aA|Aa)*", "a*b*A*", "(a|a)(b|b)", "(a+)+", "(a?)*()", "(()|a)b", "d|D|.",
        "(a*)*b", "((a|())(b|()))+", "A?B?C?D?", "(.-)*", ".*-.*", "(a|ab)(c|bcd)"};

    public static void main(String[] args) {
        acceptsByTree();
        codes();
        wordsByTree();
        wordsAtTheirEdges();
        beyondByWords();
        beyondAtItsEdges();
        fullAheadOfLooking();
        wrongNumbers();
        Due.end();
    }

    /** All words of up to four signs, by the tree that tries every cut. */
    private static void acceptsByTree() {
        for (String text : TEXTS) {
            SpeltRoutes r = null;
            Tree tree = Tree.of(text);
            for (int n = 0, all = 1; n <= 4; n++, all *= 8) {
                for (int w = 0; w < all; w++) {
                    // No object is used for more than 512 calls.
                    r = w % 256 == 0 ? Due.with(text) : r;
                    String word = word(w, n);
                    int code = n == 0 ? 0 : Integer.parseInt(word);
                    Due.is(text + " accepts " + word, r.accepts(0, n, code), tree.takes(word) ? 1 : 0);
                }
            }
        }
    }

    private static String word(int w, int n) {
        StringBuilder s = new StringBuilder();
        for (int k = n - 1; k >= 0; k--) {
            s.append(w >> 3 * k & 7);
        }
        return s.toString();
    }

    private static void codes() {
        SpeltRoutes r = Due.with("abcdABCDa", "a*", "D*");
        Due.is("nine signs", r.accepts(0, 9, 12345670), 1);
        Due.is("noughts", r.accepts(1, 9, 0), 1);
        Due.is("D nine times", r.accepts(2, 9, 777777777), 1);
        Due.is("none", r.accepts(1, 0, 0), 1);
        Due.is("none", r.accepts(0, 0, 0), 0);
        Due.is("8", r.accepts(1, 3, 8), SpeltRoutes.BAD);
        Due.is("9", r.accepts(1, 3, 90), SpeltRoutes.BAD);
        Due.is("8 ahead", r.accepts(1, 3, 800), SpeltRoutes.BAD);
        Due.is("more figures", r.accepts(1, 2, 100), SpeltRoutes.BAD);
        Due.is("just as many", r.accepts(1, 2, 77), 0);
        Due.is("a figure for none", r.accepts(1, 0, 1), SpeltRoutes.BAD);
        Due.is("ten figures", r.accepts(1, 9, 1000000000), SpeltRoutes.BAD);
        Due.is("most", r.accepts(1, 9, Integer.MAX_VALUE), SpeltRoutes.BAD);
        Due.is("less than 0", r.accepts(1, 9, -1), SpeltRoutes.BAD);
        Due.is("least", r.accepts(1, 9, Integer.MIN_VALUE), SpeltRoutes.BAD);
        Due.is("told BAD", r.told(0), 9);
    }

    private static void wordsByTree() {
        for (String text : TEXTS) {
            SpeltRoutes r = Due.with(text);
            Tree tree = Tree.of(text);
            for (int n = 0, all = 1; n <= 4; n++, all *= 8) {
                int many = 0;
                for (int w = 0; w < all; w++) {
                    many += tree.takes(word(w, n)) ? 1 : 0;
                }
                Due.is("words of " + text + ", " + n, r.words(0, n), many);
            }
        }
        SpeltRoutes r = Due.with("(.|-)*", "a*b*", "a|.");
        Due.is("all", r.words(0, 9), 134217728);
        Due.is("a*b*", r.words(1, 9), 10);
        Due.is("a twice", r.words(2, 1), 4);
    }

    private static void wordsAtTheirEdges() {
        SpeltRoutes r = Due.with(STATES_400, STATES_401, NINE_400, NINE_401);
        Due.holds("400 in all", r.words(0, 9) >= 0);
        Due.is("401 by 9", r.words(1, 9), SpeltRoutes.FULL);
        Due.holds("fewer by 8", r.words(1, 8) >= 0);
        Due.holds("400 by 9", r.words(2, 9) >= 0);
        Due.is("401 by 9", r.words(3, 9), SpeltRoutes.FULL);
        Due.holds("271 by 8", r.words(3, 8) >= 0);
        Due.is("told FULL", r.told(2), 2);
    }

    private static void beyondByWords() {
        for (String one : TEXTS) {
            for (String other : TEXTS) {
                SpeltRoutes r = Due.with(one, other);
                Model m = new Model();
                m.told[0] = new Model.Told(one);
                m.told[1] = new Model.Told(other);
                Due.is(one + " beyond " + other, r.beyond(0, 1), m.beyond(0, 1));
                int least = shortest(one, other);
                if (least >= 0) {
                    Due.is(one + " beyond " + other, r.beyond(0, 1), least);
                }
            }
        }
        SpeltRoutes r = Due.with("(a|b)*", "a*(ba*)*", "(a|b)*a", "aaaaaaaaaaaaaaaaaaaaaaaa");
        Due.is("alike", r.beyond(0, 1), SpeltRoutes.NONE);
        Due.is("alike", r.beyond(1, 0), SpeltRoutes.NONE);
        Due.is("less", r.beyond(2, 0), SpeltRoutes.NONE);
        Due.is("the WORD without signs", r.beyond(0, 2), 0);
        Due.is("24", r.beyond(3, 3), SpeltRoutes.NONE);
        Due.reads(r, 0, "b*");
        Due.is("24", r.beyond(3, 0), 24);
    }

    /** The shortest word of three signs or fewer that one accepts and the other does not. */
    private static int shortest(String one, String other) {
        Tree a = Tree.of(one);
        Tree b = Tree.of(other);
        for (int n = 0, all = 1; n <= 3; n++, all *= 8) {
            for (int w = 0; w < all; w++) {
                if (a.takes(word(w, n)) && !b.takes(word(w, n))) {
                    return n;
                }
            }
        }
        return -1;
    }

    private static void beyondAtItsEdges() {
        SpeltRoutes r = Due.with(STATES_400, STATES_401, "()", "(.|-)*");
        Due.is("400 pairs", r.beyond(0, 0), SpeltRoutes.NONE);
        Due.is("401 pairs", r.beyond(1, 1), SpeltRoutes.FULL);
        // The empty set comes behind a letter and behind a capital: the other has a STATE for each.
        Due.is("401 pairs of 400 and 3 STATES", r.beyond(0, 3), SpeltRoutes.FULL);
        Due.is("told FULL", r.told(2), 2);
        Due.is("found ahead of FULL", r.beyond(3, 1), 0);
        Due.is("found ahead of FULL", r.beyond(2, 1), 0);
    }

    /** The shortest WORD of .*a and n times . has n + 1 signs; so many lead to 2 ^ (n + 1) STATES. */
    private static void fullAheadOfLooking() {
        SpeltRoutes r = Due.with(".*a.......", ".*a........", "()");
        Due.is("8 signs, 258 pairs", r.beyond(0, 2), 8);
        Due.is("9 signs, 514 pairs", r.beyond(1, 2), SpeltRoutes.FULL);
        Due.is("told FULL", r.told(2), 1);
    }

    private static void wrongNumbers() {
        SpeltRoutes r = Due.with("a");
        int[] wrong = {-1, 4, Integer.MAX_VALUE, Integer.MIN_VALUE};
        for (int x : wrong) {
            Due.is("accepts x", r.accepts(x, 1, 0), SpeltRoutes.BAD);
            Due.is("words x", r.words(x, 1), SpeltRoutes.BAD);
            Due.is("beyond x", r.beyond(x, 0), SpeltRoutes.BAD);
            Due.is("beyond y", r.beyond(0, x), SpeltRoutes.BAD);
            Due.is("BAD ahead of NO", r.beyond(1, x), SpeltRoutes.BAD);
        }
        Due.is("accepts n", r.accepts(0, 10, 0), SpeltRoutes.BAD);
        Due.is("accepts n", r.accepts(0, -1, 0), SpeltRoutes.BAD);
        Due.is("BAD ahead of NO", r.accepts(1, 1, 8), SpeltRoutes.BAD);
        Due.is("words n", r.words(0, 10), SpeltRoutes.BAD);
        Due.is("words n", r.words(0, -1), SpeltRoutes.BAD);
        Due.is("BAD ahead of NO", r.words(1, 10), SpeltRoutes.BAD);
        Due.is("told NO", r.told(1), 0);
        Due.is("accepts of none", r.accepts(1, 0, 0), SpeltRoutes.NO);
        Due.is("words of none", r.words(1, 0), SpeltRoutes.NO);
        Due.is("beyond of none", r.beyond(0, 1), SpeltRoutes.NO);
        Due.is("beyond of none", r.beyond(1, 0), SpeltRoutes.NO);
        Due.is("told NO", r.told(1), 4);
        Due.is("told BAD", r.told(0), 26);
    }
}
