import java.util.List;

/** The sentences of 'Terms' that name a bound, each with a test of its own. */
public final class TermsTest {
    private static final String ATOMS = "abcdABCD.-";
    /** 24 PLACES, all kinds among them. */
    private static final String MOST = "abcdABCD.-abcdABCD.-abcd";

    public static void main(String[] args) {
        vertices();
        edgesAsTheyCome();
        noTwoAlike();
        oneNumberNearer();
        lettersAndCapitals();
        routesAlike();
        expressionsNoneAtFirst();
        eightyBytes();
        rowsNeedParts();
        severalSigns();
        everyByteAsAnAtom();
        everyByteBehindAPart();
        blanksAnywhere();
        nothingElseIsABlank();
        placesAreAtoms();
        twentyFourPlaces();
        aTwentyFifth();
        theFirstFault();
        endsTooEarly();
        withoutSteps();
        oneStandsAtMost();
        theBeginningIsItsOwn();
        theEmptySet();
        setsAlikeAreOne();
        fiveHundredAndTwelve();
        Due.end();
    }

    private static void reads(String text, int due) {
        Due.is("reads of '" + text + "'", Due.reads(new SpeltRoutes(), 0, text), due);
    }

    private static void fault(String text, int place) {
        reads(text, -10 - place);
    }

    // ---- VERTICES and EDGES

    /** "VERTICES 0 .. 9": a ring through all of them and back. */
    private static void vertices() {
        SpeltRoutes r = Due.with("a", "A", "a*");
        for (int v = 0; v < 10; v++) {
            Due.is("edge", r.edge(v, 0, (v + 1) % 10), 0);
        }
        for (int v = 0; v < 10; v++) {
            Due.is("along from " + v, r.ends(0, v), 1 << (v + 1) % 10);
            Due.is("back from " + v, r.ends(1, v), 1 << (v + 9) % 10);
            Due.is("all from " + v, r.ends(2, v), 1023);
        }
        Due.is("an 11th", r.edge(10, 0, 0), SpeltRoutes.BAD);
        Due.is("an 11th", r.ends(2, 10), SpeltRoutes.BAD);
    }

    /** "EDGES 0 .. 29, as they come, each from a VERTEX to a VERTEX (that may be the same)". */
    private static void edgesAsTheyCome() {
        SpeltRoutes r = new SpeltRoutes();
        for (int e = 0; e < 30; e++) {
            Due.is("none of number " + e, r.of(e, 0), SpeltRoutes.BAD);
            Due.is("edge " + e, r.edge(9 - e % 10, 3 - e / 10, 9 - e % 10), 0);
            Due.is("from " + e, r.of(e, 0), 9 - e % 10);
            Due.is("LETTER " + e, r.of(e, 1), 3 - e / 10);
            Due.is("to " + e, r.of(e, 2), 9 - e % 10);
        }
        Due.is("the first stays", r.of(0, 0), 9);
        Due.is("a 31st", r.edge(0, 0, 0), SpeltRoutes.FULL);
        Due.is("none of number 30", r.of(30, 0), SpeltRoutes.BAD);
    }

    /** "no two alike": alike is what has from, LETTER and to alike. */
    private static void noTwoAlike() {
        SpeltRoutes r = new SpeltRoutes();
        Due.is("one", r.edge(2, 1, 3), 0);
        Due.is("alike", r.edge(2, 1, 3), SpeltRoutes.NO);
        Due.is("another from", r.edge(1, 1, 3), 0);
        Due.is("another LETTER", r.edge(2, 2, 3), 0);
        Due.is("another to", r.edge(2, 1, 4), 0);
        Due.is("the other way round", r.edge(3, 1, 2), 0);
        Due.is("EDGES", r.told(4), 5);
        Due.is("alike", r.edge(3, 1, 2), SpeltRoutes.NO);
        r.drop(0);
        Due.is("its like is gone", r.edge(2, 1, 3), 0);
        r.anew();
        Due.is("all are gone", r.edge(2, 1, 3), 0);
        r.draw(0, 1);
        Due.is("a drawn one alike", r.edge(0, 0, 3), SpeltRoutes.NO);
        Due.is("the one ahead of draw is gone", r.edge(2, 1, 3), 0);
    }

    /** "An EDGE that is dropped leaves those behind it one number nearer", those ahead of it where they are. */
    private static void oneNumberNearer() {
        for (int gone = 0; gone < 30; gone++) {
            SpeltRoutes r = BoundsTest.edges(30);
            Due.is("drop", r.drop(gone), 0);
            Due.is("EDGES", r.told(4), 29);
            for (int e = 0; e < 29; e++) {
                int was = e < gone ? e : e + 1;
                Due.is("from of " + e, r.of(e, 0), was % 10);
                Due.is("LETTER of " + e, r.of(e, 1), was / 10);
                Due.is("to of " + e, r.of(e, 2), 9 - was % 10);
            }
            Due.is("none of number 29", r.of(29, 0), SpeltRoutes.BAD);
            Due.is("its like comes last", r.edge(gone % 10, gone / 10, 9 - gone % 10), 0);
            Due.is("its like comes last", r.of(29, 0), gone % 10);
        }
    }

    /** "along an EDGE spells its LETTER, back along one spells that one's CAPITAL (.. 4 more)". */
    private static void lettersAndCapitals() {
        for (int letter = 0; letter < 4; letter++) {
            for (int sign = 0; sign < 8; sign++) {
                SpeltRoutes r = Due.with("" + ATOMS.charAt(sign), ".", "-");
                r.edge(4, letter, 6);
                Due.is("along", r.answers(0, 4, 6), sign == letter ? 1 : 0);
                Due.is("back", r.answers(0, 6, 4), sign == letter + 4 ? 1 : 0);
                Due.is("any LETTER", r.ends(1, 4), 1 << 6);
                Due.is("any LETTER, back", r.ends(1, 6), 0);
                Due.is("any CAPITAL", r.ends(2, 6), 1 << 4);
                Due.is("any CAPITAL, along", r.ends(2, 4), 0);
                for (int figure = 0; figure < 8; figure++) {
                    Due.is("figure " + figure, r.accepts(0, 1, figure), figure == sign ? 1 : 0);
                    Due.is("figure " + figure, r.accepts(1, 1, figure), figure < 4 ? 1 : 0);
                    Due.is("figure " + figure, r.accepts(2, 1, figure), figure < 4 ? 0 : 1);
                }
            }
        }
    }

    /** "two are alike, if all STEPS are (the EDGE and the way)". */
    private static void routesAlike() {
        SpeltRoutes r = Due.with("a|A", ".|-", "(a|A)(a|A)", "a|a");
        r.edge(1, 0, 1);
        Due.is("a loop both ways", r.count(0, 1, 1, 1), 2);
        Due.is("a loop both ways, twice", r.count(2, 1, 1, 2), 4);
        Due.is("one way, told twice", r.count(3, 1, 1, 1), 1);
        r.edge(1, 1, 1);
        Due.is("two EDGES", r.count(1, 1, 1, 1), 4);
    }

    // ---- EXPRESSIONS

    /** "EXPRESSIONS 0 .. 3 .., each none at first": each becomes one for itself. */
    private static void expressionsNoneAtFirst() {
        for (int told = 0; told < 4; told++) {
            SpeltRoutes r = new SpeltRoutes();
            Due.is("reads", Due.reads(r, told, "ab"), 2);
            for (int x = 0; x < 4; x++) {
                Due.is("about " + x, r.about(x, 0), x == told ? 2 : SpeltRoutes.NONE);
                Due.is("pairs " + x, r.pairs(x), x == told ? 0 : SpeltRoutes.NO);
                Due.is("accepts " + x, r.accepts(x, 2, 1), x == told ? 1 : SpeltRoutes.NO);
                Due.is("beyond " + x, r.beyond(told, x), x == told ? SpeltRoutes.NONE : SpeltRoutes.NO);
                Due.is("stand " + x, r.stand(x), x == told ? 0 : SpeltRoutes.NO);
            }
        }
    }

    /** "THE TEXT (80 bytes at most)": the 80th is read, too. */
    private static void eightyBytes() {
        reads(" ".repeat(79) + "a", 1);
        reads("a" + "*".repeat(79), 1);
        fault(" ".repeat(79) + "e", 79);
        fault(" ".repeat(78) + "a|", 80);
        SpeltRoutes r = new SpeltRoutes();
        Due.text(r, "a" + "?".repeat(78));
        Due.is("79", r.told(3), 79);
        Due.is("80th", r.type('|'), 80);
        Due.is("81st", r.type('b'), SpeltRoutes.FULL);
        Due.is("the 81st is not in it", r.reads(0), -90);
        Due.is("clear", r.clear(), 80);
        Due.is("room again", r.type('b'), 1);
        Due.is("reads", r.reads(0), 1);
        Due.is("just the new ones", r.accepts(0, 1, 1), 1);
        Due.is("just the new ones", r.accepts(0, 0, 0), 0);
    }

    /** "CHOICE: ROWS with | between"; "ROW: one or more PARTS". */
    private static void rowsNeedParts() {
        reads("a|b", 2);
        reads("a|b|c|d|A|B|C|D|.|-", 10);
        reads("()|()", 0);
        fault("|", 0);
        fault("|a", 0);
        fault("a||b", 2);
        fault("a|", 2);
        fault("(|a)", 1);
        fault("(a|)", 3);
        fault("(a||b)", 3);
        fault("(|)", 1);
        fault("a(|b)", 2);
    }

    /** "perhaps with *, + or ? behind it (.. several of them, too)"; none of them without an ATOM. */
    private static void severalSigns() {
        for (String one : List.of("*", "+", "?")) {
            fault(one, 0);
            fault("(" + one, 1);
            fault("(" + one + ")", 1);
            fault("a|" + one, 2);
            fault("a|b(" + one, 4);
            for (String two : List.of("*", "+", "?")) {
                String both = one + two;
                SpeltRoutes r = Due.with("a" + both, "(ab)" + both, "()" + both);
                boolean none = !both.equals("++");
                boolean many = !both.equals("??");
                Due.is("none by " + both, r.accepts(0, 0, 0), none ? 1 : 0);
                Due.is("once by " + both, r.accepts(0, 1, 0), 1);
                Due.is("nine times by " + both, r.accepts(0, 9, 0), many ? 1 : 0);
                Due.is("none by " + both, r.accepts(1, 0, 0), none ? 1 : 0);
                Due.is("twice by " + both, r.accepts(1, 4, 101), many ? 1 : 0);
                Due.is("half by " + both, r.accepts(1, 3, 10), 0);
                Due.is("() by " + both, r.accepts(2, 0, 0), 1);
                Due.is("() by " + both, r.accepts(2, 1, 0), 0);
            }
        }
    }

    /** Of all 128 bytes, alone, behind (, behind | and behind a blank: those that can begin an ATOM. */
    private static void everyByteAsAnAtom() {
        for (int c = 0; c < 128; c++) {
            String it = "" + (char) c;
            boolean atom = ATOMS.contains(it);
            boolean blank = c == 32;
            reads(it, atom ? 1 : blank ? -11 : c == '(' ? -11 : -10);
            reads("a|" + it, atom ? 2 : blank ? -13 : c == '(' ? -13 : -12);
            reads("(" + it, atom || blank || c == '(' ? -12 : c == ')' ? 0 : -11);
            reads(" " + it, atom ? 1 : blank || c == '(' ? -12 : -11);
        }
    }

    /** Of all 128 bytes, behind an ATOM: those that can stand there, within brackets or not. */
    private static void everyByteBehindAPart() {
        for (int c = 0; c < 128; c++) {
            String it = "" + (char) c;
            boolean atom = ATOMS.contains(it);
            boolean stays = "*+? ".contains(it);
            boolean opens = c == '(' || c == '|';
            reads("a" + it, atom ? 2 : stays ? 1 : opens ? -12 : -11);
            reads("a*" + it, atom ? 2 : stays ? 1 : opens ? -13 : -12);
            reads("()" + it, atom ? 1 : stays ? 0 : opens ? -13 : -12);
            reads("(a" + it, atom || stays || opens ? -13 : c == ')' ? 1 : -12);
        }
    }

    /** "Blanks (32) may stand anywhere": at every place of texts, one or several. */
    private static void blanksAnywhere() {
        for (String text : List.of("a(b|c)*d?", "()", "((a))+|.-", "(()|a?)**b")) {
            SpeltRoutes plain = Due.with(text);
            for (int i = 0; i <= text.length(); i++) {
                for (String blanks : List.of(" ", "   ")) {
                    SpeltRoutes r = new SpeltRoutes();
                    String with = text.substring(0, i) + blanks + text.substring(i);
                    Due.is("reads of '" + with + "'", Due.reads(r, 0, with), plain.about(0, 0));
                    for (int n = 0; n < 6; n++) {
                        Due.is("words of '" + with + "'", r.words(0, n), plain.words(0, n));
                    }
                }
            }
        }
        reads(" ( a | b ) * c ? ", 3);
        fault("a | | b", 4);
        fault("a |", 3);
        fault("( a", 3);
    }

    /** Only 32 is a blank: not the tab, the line's end, 0 or 127. */
    private static void nothingElseIsABlank() {
        for (int c : new int[] {0, 9, 10, 13, 31, 33, 95, 127}) {
            fault("a" + (char) c + "b", 1);
            fault("(" + (char) c + ")", 1);
        }
    }

    /** "PLACES: how many ATOMS there are but ( CHOICE ) and () (. and - are one each)". */
    private static void placesAreAtoms() {
        reads("()", 0);
        reads("((()))", 0);
        reads("()()()|()", 0);
        reads("(a)", 1);
        reads("((a)|(b))", 2);
        reads(".", 1);
        reads("-", 1);
        reads(".-.-", 4);
        reads("a**++??", 1);
        reads("aaa", 3);
        reads("a()b()", 2);
    }

    /** "24 at most": of each kind, in a ROW, in a CHOICE, and with what is no PLACE behind them. */
    private static void twentyFourPlaces() {
        for (int i = 0; i < ATOMS.length(); i++) {
            String it = ATOMS.substring(i, i + 1);
            reads(it.repeat(24), 24);
            reads((it + "|").repeat(23) + it, 24);
            reads((it + "*").repeat(24), 24);
            reads("(" + it.repeat(24) + ")*", 24);
            fault(it.repeat(25), 24);
        }
        reads(MOST + "*+?()|()(())", 24);
        reads("()".repeat(28) + MOST, 24);
        // The 24th leads on as the others do.
        SpeltRoutes r = Due.with("a|".repeat(23) + "b+", "b?".repeat(22) + "(ac)*");
        Due.is("to itself", r.accepts(0, 9, 111111111), 1);
        Due.is("to the 23rd", r.accepts(1, 6, 20202), 1);
    }

    /** "(a 25th PLACE, too)": its own place is the FAULT, whatever stands between or behind. */
    private static void aTwentyFifth() {
        for (int i = 0; i < ATOMS.length(); i++) {
            String it = ATOMS.substring(i, i + 1);
            fault(MOST + it, 24);
            fault(MOST + it + "e", 24);
            fault(MOST + " " + it, 25);
            fault(MOST + "|" + it, 25);
            fault(MOST + "*" + it + ")", 25);
            fault(MOST + "((" + it, 26);
            fault("(" + MOST + it + ")", 25);
            fault(MOST + "()".repeat(27) + it, 78);
        }
        fault(MOST + "(", 25);
        fault(MOST + "|", 25);
        fault(MOST + "()|", 27);
        SpeltRoutes r = Due.with("ab");
        Due.is("25", Due.reads(r, 0, MOST + "a"), -34);
        Due.is("it stays", r.about(0, 0), 2);
    }

    /** "the place of the first byte that can not stand there", though there are more of them. */
    private static void theFirstFault() {
        fault("e)e", 0);
        fault("a)|)", 1);
        fault("ab*|*e", 4);
        fault("(a))e", 3);
        fault("a(b|c))*", 6);
        fault("a(b|c)*)(", 7);
        fault(" )", 1);
        fault("()) (", 2);
        fault("a|)", 2);
        fault("(a|)b", 3);
        fault("e" + "a".repeat(30), 0);
    }

    /** "the TEXT's length, if it ends too early (an empty one, too)", blanks at its end included. */
    private static void endsTooEarly() {
        fault("", 0);
        for (int n = 1; n <= 80; n++) {
            fault(" ".repeat(n), n);
            fault("(".repeat(n), n);
        }
        fault("(a", 2);
        fault("(a ", 3);
        fault("(a|", 3);
        fault("((a)", 4);
        fault("a|  ", 4);
        fault("a(", 2);
        reads("(".repeat(40) + ")".repeat(40), 0);
        fault("(".repeat(41) + ")".repeat(39), 80);
        SpeltRoutes r = Due.with("ab");
        r.clear();
        Due.is("an empty one", r.reads(0), -10);
        Due.is("it stays", r.about(0, 0), 2);
    }

    // ---- ROUTES and STATES

    /** "the ROUTE without STEPS spells the WORD without signs": from each VERTEX to itself alone. */
    private static void withoutSteps() {
        SpeltRoutes r = Due.with("()", "a*", "a+", "a?b?");
        for (int v = 0; v < 10; v++) {
            Due.is("()", r.ends(0, v), 1 << v);
            Due.is("a*", r.ends(1, v), 1 << v);
            Due.is("a+", r.ends(2, v), 0);
            Due.is("a?b?", r.ends(3, v), 1 << v);
            Due.is("far", r.far(1, v, v), 0);
            Due.is("far", r.far(2, v, v), SpeltRoutes.NONE);
            Due.is("count", r.count(1, v, v, 0), 1);
            Due.is("count", r.count(2, v, v, 0), 0);
            Due.is("count elsewhere", r.count(1, v, 9 - v, 0), 0);
        }
    }

    /** "one EXPRESSION at most stands (none at first)". */
    private static void oneStandsAtMost() {
        SpeltRoutes r = Due.with("a", "b", "()", "a|b");
        Due.is("none at first", r.standing(0), SpeltRoutes.NONE);
        r.edge(0, 0, 1);
        for (int x = 0; x < 4; x++) {
            Due.is("stand", r.stand(x), new int[] {1, 0, 10, 1}[x]);
            Due.is("this one", r.standing(0), x);
            Due.is("its pairs alone", r.kept(0, 1), new int[] {1, 0, 0, 1}[x]);
            Due.is("its pairs alone", r.kept(7, 7), x == 2 ? 1 : 0);
        }
    }

    private static void states(String text, int due) {
        SpeltRoutes r = Due.with(text);
        Due.is("STATES of " + text, r.about(0, 4), due);
        Due.is("STATES of " + text + ", slowly", Model.statesBy(text, 100), due);
    }

    /** "(the beginning is one of its own)": neither the empty set nor what is reached again. */
    private static void theBeginningIsItsOwn() {
        states("()", 2);
        states("()|()*", 2);
        states("(.|-)*", 3);
        states("a*", 3);
        states("(.-)*", 4);
    }

    /** "the empty set too, if WORDS lead there". */
    private static void theEmptySet() {
        states("(.|-)*a", 4);
        states("(.|-)*(.|-)", 3);
        states("(.|-)+", 3);
        // The same with an end: beyond it there is nothing.
        states("(.|-)", 4);
        states("(.|-)(.|-)", 6);
    }

    /** "sets that are alike are one STATE". */
    private static void setsAlikeAreOne() {
        states("a|b", 4);
        states(".", 3);
        states("a|a", 3);
        states("(a|a)*", 3);
        states("ab|ac", 5);
        states("a(b|c)*d?", 6);
    }

    /** "An object is used for at most 512 calls": the 512th is answered as the first. */
    private static void fiveHundredAndTwelve() {
        SpeltRoutes r = new SpeltRoutes();
        for (int k = 0; k < 510; k++) {
            Due.is("refused", r.drop(0), SpeltRoutes.BAD);
        }
        Due.is("511th", r.told(0), 510);
        Due.is("512th", r.edge(9, 3, 9), 0);
        r = new SpeltRoutes();
        for (int k = 0; k < 170; k++) {
            Due.is("edge", r.edge(k % 10, 0, 0), 0);
            Due.is("drop", r.drop(0), 0);
            Due.is("type or clear", k % 2 == 0 ? r.type('a') : r.clear(), 1);
        }
        Due.is("511th", r.told(4), 0);
        Due.is("512th", r.reads(0), -10);
    }
}
