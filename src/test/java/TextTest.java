/** Promises 7 to 10: type, clear, reads, about. */
public final class TextTest {
    /** Texts with just so many STATES. */
    static final String STATES_200 = "(a|b)*b(a|b)(.|-)(.|-)(a|b)c?.?a(a|b)a|B*(a|b)a.";
    static final String STATES_201 = "(a*b)*b(a|b)(.|-)(b|A).?.(.|-).?b.?|ABabc?c?";

    public static void main(String[] args) {
        bytes();
        faults();
        grammar();
        longest();
        mostPlaces();
        staysAtAFault();
        firstAndLast();
        states();
        wrongNumbers();
        Due.end();
    }

    private static void bytes() {
        SpeltRoutes r = new SpeltRoutes();
        Due.is("clear of none", r.clear(), 0);
        Due.is("byte -1", r.type(-1), SpeltRoutes.BAD);
        Due.is("byte 128", r.type(128), SpeltRoutes.BAD);
        Due.is("byte 0", r.type(0), 1);
        Due.is("byte 127", r.type(127), 2);
        Due.is("bytes", r.told(3), 2);
        Due.is("byte 0 is no blank", r.reads(0), -10);
        Due.is("clear", r.clear(), 2);
        for (int i = 1; i <= 80; i++) {
            Due.is("type", r.type('a'), i);
        }
        Due.is("81st", r.type('a'), SpeltRoutes.FULL);
        Due.is("BAD ahead of FULL", r.type(200), SpeltRoutes.BAD);
        Due.is("bytes", r.told(3), 80);
        Due.is("25th PLACE", r.reads(0), -10 - 24);
        Due.is("reads leaves THE TEXT", r.told(3), 80);
        Due.is("clear", r.clear(), 80);
        Due.is("clear", r.clear(), 0);
    }

    private static void fault(String text, int place) {
        SpeltRoutes r = new SpeltRoutes();
        Due.is("reads of '" + text + "'", Due.reads(r, 0, text), -10 - place);
        Due.is("nothing is told", r.about(0, 0), SpeltRoutes.NONE);
        Due.is("a FAULT is not refused", r.told(0) + r.told(1) + r.told(2), 0);
    }

    private static void faults() {
        fault("", 0);
        fault(" ", 1);
        fault("   ", 3);
        fault("|a", 0);
        fault("a|", 2);
        fault("a| ", 3);
        fault("a||b", 2);
        fault("*", 0);
        fault(" +a", 1);
        fault("?", 0);
        fault("a|*", 2);
        fault("(*a)", 1);
        fault("(|a)", 1);
        fault("(a|)", 3);
        fault("( | )", 2);
        fault("(a", 2);
        fault("(", 1);
        fault("((a)", 4);
        fault(")", 0);
        fault("a)", 1);
        fault("(a))", 3);
        fault("()|)", 3);
        fault("e", 0);
        fault("E", 0);
        fault("ab e", 3);
        fault("a\tb", 1);
        fault("a{", 1);
        fault("a@", 1);
        fault("a`", 1);
        fault("a,b", 1);
        fault("a/b", 1);
        fault("a0", 1);
        fault("(a|b(c|d)*", 10);
        fault("(".repeat(80), 80);
        fault("(".repeat(40) + ")".repeat(39), 79);
    }

    private static void places(String text, int due, int withoutSigns) {
        SpeltRoutes r = new SpeltRoutes();
        Due.is("reads of '" + text + "'", Due.reads(r, 0, text), due);
        Due.is("PLACES of '" + text + "'", r.about(0, 0), due);
        Due.is("without signs: '" + text + "'", r.about(0, 1), withoutSigns);
    }

    private static void grammar() {
        places("a", 1, 0);
        places("()", 0, 1);
        places("( )", 0, 1);
        places("()()", 0, 1);
        places("(())", 0, 1);
        places("()*+?", 0, 1);
        places("()+", 0, 1);
        places("()|()", 0, 1);
        places("a()", 1, 0);
        places("()|a", 1, 1);
        places("a+", 1, 0);
        places("a*", 1, 1);
        places("a?", 1, 1);
        places("a+?*", 1, 1);
        places("a?+", 1, 1);
        places("(a?b?)+", 2, 1);
        places("(a?|b)+", 2, 1);
        places("a?b", 2, 0);
        places("ab?", 2, 0);
        places(".-", 2, 0);
        places("abcdABCD.-", 10, 0);
        places(" ( a | b ) * c ", 3, 0);
        places("a *", 1, 1);
        places("(a)(b)", 2, 0);
        places("((((((((a))))))))", 1, 0);
        places("(a|b)?(c|())", 3, 1);
    }

    private static void longest() {
        places(" ".repeat(79) + "a", 1, 0);
        places("(".repeat(40) + ")".repeat(40), 0, 1);
        places("(".repeat(39) + "a" + ")".repeat(39) + "*", 1, 1);
    }

    private static void mostPlaces() {
        String most = "abcdABCD.-abcdABCD.-abcd";
        places(most, 24, 0);
        places(most + "()*", 24, 0);
        fault(most + "a", 24);
        fault(most + "|a", 25);
        fault(most + "(.", 25);
        fault(most + " -", 25);
        fault(most + "(", 25);
        fault(most + "e", 24);
    }

    private static void staysAtAFault() {
        SpeltRoutes r = Due.with("ab?");
        Due.is("FAULT", Due.reads(r, 0, "c|d|A|"), -16);
        Due.is("PLACES", r.about(0, 0), 2);
        Due.is("first", r.about(0, 2), 1);
        Due.is("accepts a", r.accepts(0, 1, 0), 1);
        Due.is("accepts ab", r.accepts(0, 2, 1), 1);
        Due.is("accepts c", r.accepts(0, 1, 2), 0);
        Due.is("PLACES of all", r.told(5), 2);
        Due.is("read again", Due.reads(r, 0, "c|d"), 2);
        Due.is("accepts a", r.accepts(0, 1, 0), 0);
        Due.is("accepts c", r.accepts(0, 1, 2), 1);
        Due.is("another", Due.reads(r, 3, "AAAA"), 4);
        Due.is("PLACES of all", r.told(5), 6);
    }

    private static void about(String text, int first, int last, int states) {
        SpeltRoutes r = Due.with(text);
        Due.is("first of " + text, r.about(0, 2), first);
        Due.is("last of " + text, r.about(0, 3), last);
        Due.is("STATES of " + text, r.about(0, 4), states);
    }

    private static void firstAndLast() {
        about("()", 0, 0, 2);
        about("a", 1, 1, 3);
        about("a?b?c?", 3, 3, 5);
        about("a*b*", 2, 2, 4);
        about("ab|cd", 2, 2, 6);
        about("a()b", 1, 1, 4);
        about("(a|b?)c", 3, 1, 5);
        about("a(b?c?)", 1, 3, 5);
        about(".", 1, 1, 3);
        about("(.|-)*", 2, 2, 3);
        about("(.|-)+", 2, 2, 3);
        // Two PLACES of one sign are one STATE where they are reached together.
        about("aa|ab", 2, 2, 5);
        about("a|a|a", 3, 3, 3);
    }

    private static void states() {
        SpeltRoutes r = Due.with(STATES_200, STATES_201, "(a|b)*a.........", "(.|-)*a");
        Due.is("200", r.about(0, 4), 200);
        Due.is("no FULL yet", r.told(2), 0);
        Due.is("201", r.about(1, 4), SpeltRoutes.FULL);
        Due.is("many", r.about(2, 4), SpeltRoutes.FULL);
        Due.is("told FULL", r.told(2), 2);
        // No WORD leads to the empty set here.
        Due.is("without the empty set", r.about(3, 4), 4);
    }

    private static void wrongNumbers() {
        SpeltRoutes r = Due.with("a");
        int[] wrong = {-1, 4, Integer.MAX_VALUE, Integer.MIN_VALUE};
        for (int x : wrong) {
            Due.is("reads", r.reads(x), SpeltRoutes.BAD);
            Due.is("about x", r.about(x, 0), SpeltRoutes.BAD);
        }
        Due.is("about what", r.about(0, -1), SpeltRoutes.BAD);
        Due.is("about what", r.about(0, 5), SpeltRoutes.BAD);
        Due.is("about what", r.about(1, 5), SpeltRoutes.BAD);
        Due.is("told BAD", r.told(0), 11);
        Due.is("NONE is not refused", r.about(1, 4), SpeltRoutes.NONE);
        Due.is("told NO", r.told(1), 0);
    }
}
