import java.util.Arrays;

/**
 * Routes through a graph with letters on its edges that spell what an expression tells.
 *
 * An EXPRESSION is held as the row of its PLACES: bit p of a set is PLACE p (1 .. 24), and bit 0 is
 * the beginning, which no sign leads to. So the beginning is a STATE of its own, and one rule,
 * "all that follows these, of that sign", goes from every STATE to the next.
 */
public final class SpeltRoutes {
    public static final int NONE = -1, BAD = -2, NO = -3, FULL = -4;

    private static final int VERTICES = 10;
    private static final int EDGES = 30;
    private static final int LETTERS = 4;
    private static final int SIGNS = 8;
    private static final int EXPRESSIONS = 4;
    private static final int TEXT = 80;
    private static final int PLACES = 24;
    private static final int FIRST_FAULT = -10;
    private static final int LONGEST_WORD = 9;
    private static final int LONGEST_COUNTED = 12;
    private static final int MOST_ROUTES = 1000000000;
    private static final int MOST_STATES = 400;
    private static final int MOST_STATES_TOLD = 200;
    private static final int SEEDS = 1000000;
    /** The set that holds the beginning alone. */
    private static final int BEGINNING = 1;
    /** A shortest ROUTE never stands twice at one VERTEX with one PLACE. */
    private static final int MOST_STEPS = VERTICES * (PLACES + 1);

    private final Edges edges = new Edges();
    private final Steps steps = new Steps();
    private final Steps fewerSteps = new Steps();
    private final Steps anySign = new Steps();
    private final int[] text = new int[TEXT];
    private int textLength = 0;
    private final Expression[] expressions = new Expression[EXPRESSIONS];
    private final Reader reader = new Reader();
    private final Reach reach = new Reach();
    private final Shortest shortest = new Shortest();
    private final Tally tally = new Tally();
    private final Comparison comparison = new Comparison();
    private final Standing stood = new Standing();
    private int badOnes = 0;
    private int noOnes = 0;
    private int fullOnes = 0;

    public SpeltRoutes() {
        for (int x = 0; x < EXPRESSIONS; x++) {
            expressions[x] = new Expression();
        }
        // WORDS are counted as ROUTES through one VERTEX that every sign leads back to.
        for (int sign = 0; sign < SIGNS; sign++) {
            anySign.put(0, sign, 0, sign);
        }
    }

    // ---- the graph

    public int edge(int u, int letter, int v) {
        if (!isVertex(u) || letter < 0 || letter >= LETTERS || !isVertex(v)) {
            return refuse(BAD);
        }
        if (edges.has(u, letter, v)) {
            return refuse(NO);
        }
        if (edges.size >= EDGES) {
            return refuse(FULL);
        }
        int had = stood.size();
        edges.put(u, letter, v);
        graphChanged();
        // An EDGE more takes no ROUTE away, so the difference is just what is new.
        int came = stood.size() - had;
        stood.came += came;
        return came;
    }

    public int drop(int e) {
        if (!edges.isEdge(e)) {
            return refuse(BAD);
        }
        int had = stood.size();
        edges.remove(e);
        graphChanged();
        int lost = had - stood.size();
        stood.lost += lost;
        return lost;
    }

    public int anew() {
        int had = edges.size;
        edges.size = 0;
        graphChanged();
        return had;
    }

    public int of(int e, int what) {
        if (!edges.isEdge(e) || what < 0 || what > 2) {
            return refuse(BAD);
        }
        if (what == 0) {
            return edges.from[e];
        }
        return what == 1 ? edges.letter[e] : edges.to[e];
    }

    public int degree(int v, int what) {
        if (!isVertex(v) || what < 0 || what > 1) {
            return refuse(BAD);
        }
        int[] side = what == 0 ? edges.from : edges.to;
        int many = 0;
        for (int e = 0; e < edges.size; e++) {
            if (side[e] == v) {
                many++;
            }
        }
        return many;
    }

    // ---- expressions

    public int type(int c) {
        if (c < 0 || c > 127) {
            return refuse(BAD);
        }
        if (textLength >= TEXT) {
            return refuse(FULL);
        }
        text[textLength] = c;
        textLength++;
        return textLength;
    }

    public int clear() {
        int had = textLength;
        textLength = 0;
        return had;
    }

    public int reads(int x) {
        if (!isExpression(x)) {
            return refuse(BAD);
        }
        int fault = reader.faultOf(text, textLength);
        if (fault != NONE) {
            return FIRST_FAULT - fault;
        }
        expressions[x].become(reader.draft);
        if (stood.which == x) {
            keepAnswers();
        }
        return expressions[x].places;
    }

    public int about(int x, int what) {
        if (!isExpression(x) || what < 0 || what > 4) {
            return refuse(BAD);
        }
        Expression asked = expressions[x];
        if (!asked.isTold) {
            return NONE;
        }
        switch (what) {
            case 0:
                return asked.places;
            case 1:
                return asked.finishes(BEGINNING) ? 1 : 0;
            case 2:
                return Integer.bitCount(asked.behind(BEGINNING));
            case 3:
                return Integer.bitCount(asked.last & ~BEGINNING);
            default:
                return orRefused(comparison.statesOf(asked));
        }
    }

    public int accepts(int x, int n, int code) {
        if (!isExpression(x) || !isWord(n, code)) {
            return refuse(BAD);
        }
        Expression asked = expressions[x];
        if (!asked.isTold) {
            return refuse(NO);
        }
        int unit = 1;
        for (int k = 1; k < n; k++) {
            unit *= 10;
        }
        int set = BEGINNING;
        for (int k = 0; k < n; k++) {
            set = asked.after(set, code / unit % 10);
            unit = Math.max(1, unit / 10);
        }
        return asked.finishes(set) ? 1 : 0;
    }

    public int words(int x, int n) {
        if (!isExpression(x) || n < 0 || n > LONGEST_WORD) {
            return refuse(BAD);
        }
        if (!expressions[x].isTold) {
            return refuse(NO);
        }
        return orRefused(tally.routesOf(expressions[x], anySign, 0, 0, n));
    }

    public int beyond(int x, int y) {
        if (!isExpression(x) || !isExpression(y)) {
            return refuse(BAD);
        }
        if (!expressions[x].isTold || !expressions[y].isTold) {
            return refuse(NO);
        }
        return orRefused(comparison.shortestBeyond(expressions[x], expressions[y], MOST_STATES));
    }

    // ---- routes

    public int answers(int x, int u, int v) {
        int refusal = refusalOf(x, u, v);
        if (refusal != 0) {
            return refuse(refusal);
        }
        return reach.endsFrom(expressions[x], steps, u) >> v & 1;
    }

    public int ends(int x, int u) {
        int refusal = refusalOf(x, u, u);
        if (refusal != 0) {
            return refuse(refusal);
        }
        return reach.endsFrom(expressions[x], steps, u);
    }

    public int pairs(int x) {
        int refusal = refusalOf(x, 0, 0);
        if (refusal != 0) {
            return refuse(refusal);
        }
        return answersOf(expressions[x]);
    }

    public int far(int x, int u, int v) {
        int refusal = refusalOf(x, u, v);
        if (refusal != 0) {
            return refuse(refusal);
        }
        return shortest.lengthOf(expressions[x], steps, u, v);
    }

    public int count(int x, int u, int v, int n) {
        int refusal = n < 0 || n > LONGEST_COUNTED ? BAD : refusalOf(x, u, v);
        if (refusal != 0) {
            return refuse(refusal);
        }
        return orRefused(tally.routesOf(expressions[x], steps, u, v, n));
    }

    public int route(int x, int u, int v, int k, int what) {
        int refusal = k < 0 || what < 0 || what > 2 ? BAD : refusalOf(x, u, v);
        if (refusal != 0) {
            return refuse(refusal);
        }
        int length = shortest.trace(expressions[x], steps, u, v);
        if (k >= length) {
            return NONE;
        }
        int step = shortest.path[k];
        if (what == 0) {
            return steps.edge[step];
        }
        return what == 1 ? steps.sign[step] / LETTERS : steps.to[step];
    }

    public int bridge(int x, int u, int v) {
        int refusal = refusalOf(x, u, v);
        if (refusal != 0) {
            return refuse(refusal);
        }
        int length = shortest.trace(expressions[x], steps, u, v);
        // An EDGE that one ROUTE does without is no bridge: only those of one ROUTE are tried.
        int needed = 0;
        for (int k = 0; k < length; k++) {
            needed |= 1 << steps.edge[shortest.path[k]];
        }
        for (int e = 0; e < edges.size; e++) {
            if ((needed >> e & 1) != 0 && !isAnswerWithout(expressions[x], u, v, e)) {
                return e;
            }
        }
        return NONE;
    }

    // ---- standing answers

    public int stand(int x) {
        if (x != NONE && !isExpression(x)) {
            return refuse(BAD);
        }
        if (x != NONE && !expressions[x].isTold) {
            return refuse(NO);
        }
        stood.which = x;
        stood.came = 0;
        stood.lost = 0;
        keepAnswers();
        return stood.size();
    }

    public int standing(int what) {
        switch (what) {
            case 0:
                return stood.which;
            case 1:
                return stood.size();
            case 2:
                return stood.came;
            case 3:
                return stood.lost;
            default:
                return refuse(BAD);
        }
    }

    public int kept(int u, int v) {
        if (!isVertex(u) || !isVertex(v)) {
            return refuse(BAD);
        }
        if (stood.which == NONE) {
            return refuse(NO);
        }
        return stood.rows[u] >> v & 1;
    }

    // ---- drawn

    public int draw(int seed, int n) {
        if (seed < 0 || seed >= SEEDS || n < 0 || n > EDGES) {
            return refuse(BAD);
        }
        edges.size = 0;
        long x = seed;
        for (int k = 0; k < n; k++) {
            x = (x * 1103515245L + 12345L) % 2147483648L;
            int from = (int) (x / 65536 % VERTICES);
            int letter = (int) (x / 1024 % LETTERS);
            int to = (int) (x / 4096 % VERTICES);
            if (!edges.has(from, letter, to)) {
                edges.put(from, letter, to);
            }
        }
        graphChanged();
        return edges.size;
    }

    public int told(int what) {
        switch (what) {
            case 0:
                return badOnes;
            case 1:
                return noOnes;
            case 2:
                return fullOnes;
            case 3:
                return textLength;
            case 4:
                return edges.size;
            case 5:
                return placesOfAll();
            case 6:
                return stood.which;
            default:
                return refuse(BAD);
        }
    }

    public long digest() {
        long h = 1931;
        for (int what = 0; what <= 6; what++) {
            h = 31 * h + told(what);
        }
        for (int e = 0; e < edges.size; e++) {
            h = 31 * h + edges.from[e];
            h = 31 * h + edges.letter[e];
            h = 31 * h + edges.to[e];
        }
        for (int x = 0; x < EXPRESSIONS; x++) {
            h = 31 * h + (expressions[x].isTold ? answersOf(expressions[x]) : NONE);
        }
        for (int what = 1; what <= 3; what++) {
            h = 31 * h + standing(what);
        }
        return h;
    }

    // ---- what the calls share

    private static boolean isVertex(int v) {
        return v >= 0 && v < VERTICES;
    }

    private static boolean isExpression(int x) {
        return x >= 0 && x < EXPRESSIONS;
    }

    private static boolean isWord(int n, int code) {
        if (n < 0 || n > LONGEST_WORD || code < 0) {
            return false;
        }
        int rest = code;
        for (int k = 0; k < n; k++) {
            if (rest % 10 >= SIGNS) {
                return false;
            }
            rest /= 10;
        }
        return rest == 0;
    }

    /** What a call about ROUTES from u to v is refused with; 0: it is not. */
    private int refusalOf(int x, int u, int v) {
        if (!isExpression(x) || !isVertex(u) || !isVertex(v)) {
            return BAD;
        }
        return expressions[x].isTold ? 0 : NO;
    }

    private int refuse(int why) {
        if (why == BAD) {
            badOnes++;
        } else if (why == NO) {
            noOnes++;
        } else {
            fullOnes++;
        }
        return why;
    }

    private int orRefused(int answer) {
        return answer == FULL ? refuse(FULL) : answer;
    }

    private int placesOfAll() {
        int many = 0;
        for (int x = 0; x < EXPRESSIONS; x++) {
            many += expressions[x].places;
        }
        return many;
    }

    private int answersOf(Expression asked) {
        int many = 0;
        for (int u = 0; u < VERTICES; u++) {
            many += Integer.bitCount(reach.endsFrom(asked, steps, u));
        }
        return many;
    }

    private boolean isAnswerWithout(Expression asked, int u, int v, int e) {
        edges.spell(fewerSteps, e);
        return (reach.endsFrom(asked, fewerSteps, u) >> v & 1) != 0;
    }

    private void graphChanged() {
        edges.spell(steps, NONE);
        keepAnswers();
    }

    private void keepAnswers() {
        for (int u = 0; u < VERTICES; u++) {
            stood.rows[u] = stood.which == NONE
                    ? 0 : reach.endsFrom(expressions[stood.which], steps, u);
        }
    }

    /** The EDGES, as they came. */
    private static final class Edges {
        final int[] from = new int[EDGES];
        final int[] letter = new int[EDGES];
        final int[] to = new int[EDGES];
        int size = 0;

        boolean isEdge(int e) {
            return e >= 0 && e < size;
        }

        boolean has(int u, int l, int v) {
            for (int e = 0; e < size; e++) {
                if (from[e] == u && letter[e] == l && to[e] == v) {
                    return true;
                }
            }
            return false;
        }

        void put(int u, int l, int v) {
            if (size >= EDGES) {
                return;
            }
            from[size] = u;
            letter[size] = l;
            to[size] = v;
            size++;
        }

        void remove(int gone) {
            for (int e = gone + 1; e < size; e++) {
                from[e - 1] = from[e];
                letter[e - 1] = letter[e];
                to[e - 1] = to[e];
            }
            size--;
        }

        /** Tells all STEPS but those of one EDGE, in the order by which ROUTES are compared. */
        void spell(Steps all, int without) {
            all.size = 0;
            for (int e = 0; e < size; e++) {
                if (e != without) {
                    all.put(from[e], letter[e], to[e], e);
                }
            }
            for (int e = 0; e < size; e++) {
                if (e != without) {
                    all.put(to[e], letter[e] + LETTERS, from[e], e);
                }
            }
        }
    }

    /** A row of STEPS that can be taken. */
    private static final class Steps {
        final int[] from = new int[2 * EDGES];
        final int[] sign = new int[2 * EDGES];
        final int[] to = new int[2 * EDGES];
        final int[] edge = new int[2 * EDGES];
        int size = 0;

        void put(int u, int s, int v, int e) {
            if (size >= 2 * EDGES) {
                return;
            }
            from[size] = u;
            sign[size] = s;
            to[size] = v;
            edge[size] = e;
            size++;
        }
    }

    /** An EXPRESSION: which PLACES follow which, which bear a sign, and which can be last. */
    private static final class Expression {
        final int[] follow = new int[PLACES + 1];
        final int[] bearing = new int[SIGNS];
        int last = 0;
        int places = 0;
        boolean isTold = false;

        void wipe() {
            Arrays.fill(follow, 0);
            Arrays.fill(bearing, 0);
            last = 0;
            places = 0;
            isTold = false;
        }

        void become(Expression other) {
            System.arraycopy(other.follow, 0, follow, 0, PLACES + 1);
            System.arraycopy(other.bearing, 0, bearing, 0, SIGNS);
            last = other.last;
            places = other.places;
            isTold = true;
        }

        /** A new PLACE that bears each of these signs: the set of it alone. */
        int newPlace(int signs) {
            if (places >= PLACES) {
                return 0;
            }
            places++;
            int set = 1 << places;
            for (int s = 0; s < SIGNS; s++) {
                if ((signs >> s & 1) != 0) {
                    bearing[s] |= set;
                }
            }
            return set;
        }

        void link(int these, int behindThem) {
            for (int p = 1; p <= places; p++) {
                if ((these >> p & 1) != 0) {
                    follow[p] |= behindThem & ~BEGINNING;
                }
            }
        }

        boolean finishes(int set) {
            return (set & last) != 0;
        }

        int behind(int set) {
            int all = 0;
            for (int p = 0; p <= places; p++) {
                if ((set >> p & 1) != 0) {
                    all |= follow[p];
                }
            }
            return all;
        }

        int aheadOf(int set) {
            int all = 0;
            for (int p = 0; p <= places; p++) {
                if ((follow[p] & set) != 0) {
                    all |= 1 << p;
                }
            }
            return all;
        }

        int after(int set, int sign) {
            return behind(set) & bearing[sign];
        }
    }

    /**
     * Reads THE TEXT byte by byte into a draft. PARTS, ROWS and CHOICES are pairs of sets, the
     * PLACES that can be first and those that can be last; BEGINNING is in both, if the WORD
     * without signs is accepted. What is open stands in rows, by how many brackets are open.
     */
    private static final class Reader {
        static final int WANTS_PART = 0, OPENED = 1, BEHIND_PART = 2;

        final Expression draft = new Expression();
        final int[] rowFirst = new int[TEXT + 1];
        final int[] rowLast = new int[TEXT + 1];
        final int[] choiceFirst = new int[TEXT + 1];
        final int[] choiceLast = new int[TEXT + 1];
        int depth;
        int partFirst;
        int partLast;
        int stage;

        /** The FAULT; NONE: there is none, and the draft is what the text tells. */
        int faultOf(int[] bytes, int length) {
            draft.wipe();
            depth = 0;
            stage = WANTS_PART;
            beginChoice();
            for (int i = 0; i < length && i < TEXT; i++) {
                if (!takes(bytes[i])) {
                    return i;
                }
            }
            if (stage != BEHIND_PART || depth != 0) {
                return length;
            }
            closeRow();
            draft.follow[0] = choiceFirst[0] & ~BEGINNING;
            draft.last = choiceLast[0];
            return NONE;
        }

        boolean takes(int c) {
            switch (c) {
                case ' ':
                    return true;
                case '(':
                    return opens();
                case ')':
                    return closes();
                case '|':
                    return turns();
                case '*':
                case '+':
                case '?':
                    return repeats(c);
                default:
                    return takesPlace(signsOf(c));
            }
        }

        static int signsOf(int c) {
            if (c >= 'a' && c <= 'd') {
                return 1 << (c - 'a');
            }
            if (c >= 'A' && c <= 'D') {
                return 1 << (c - 'A' + LETTERS);
            }
            if (c == '.') {
                return 15;
            }
            return c == '-' ? 240 : 0;
        }

        boolean takesPlace(int signs) {
            if (signs == 0 || draft.places >= PLACES) {
                return false;
            }
            closePart();
            int set = draft.newPlace(signs);
            openPart(set, set);
            return true;
        }

        boolean opens() {
            if (depth >= TEXT) {
                return false;
            }
            closePart();
            depth++;
            beginChoice();
            stage = OPENED;
            return true;
        }

        boolean closes() {
            if (depth == 0 || stage == WANTS_PART) {
                return false;
            }
            // A row without PARTS accepts the WORD without signs: just what () is to accept.
            closeRow();
            int inner = depth;
            depth--;
            openPart(choiceFirst[inner], choiceLast[inner]);
            return true;
        }

        boolean turns() {
            if (stage != BEHIND_PART) {
                return false;
            }
            closeRow();
            beginRow();
            stage = WANTS_PART;
            return true;
        }

        boolean repeats(int c) {
            if (stage != BEHIND_PART) {
                return false;
            }
            if (c != '?') {
                draft.link(partLast, partFirst);
            }
            if (c != '+') {
                partFirst |= BEGINNING;
                partLast |= BEGINNING;
            }
            return true;
        }

        void beginChoice() {
            choiceFirst[depth] = 0;
            choiceLast[depth] = 0;
            beginRow();
        }

        void beginRow() {
            rowFirst[depth] = BEGINNING;
            rowLast[depth] = BEGINNING;
        }

        void openPart(int first, int last) {
            partFirst = first;
            partLast = last;
            stage = BEHIND_PART;
        }

        /** Puts the PART behind its ROW, once no *, + or ? can change it any more. */
        void closePart() {
            if (stage != BEHIND_PART) {
                return;
            }
            draft.link(rowLast[depth], partFirst);
            if ((rowFirst[depth] & BEGINNING) != 0) {
                rowFirst[depth] = rowFirst[depth] & ~BEGINNING | partFirst;
            }
            if ((partLast & BEGINNING) != 0) {
                rowLast[depth] |= partLast & ~BEGINNING;
            } else {
                rowLast[depth] = partLast;
            }
        }

        void closeRow() {
            closePart();
            choiceFirst[depth] |= rowFirst[depth];
            choiceLast[depth] |= rowLast[depth];
        }
    }

    /** Where ROUTES from a VERTEX lead to, with which PLACES. */
    private static final class Reach {
        final int[] seen = new int[VERTICES];
        final int[] fresh = new int[VERTICES];
        final int[] going = new int[VERTICES];

        /** All v such that u, v is an ANSWER, as bits. */
        int endsFrom(Expression asked, Steps all, int u) {
            Arrays.fill(seen, 0);
            Arrays.fill(fresh, 0);
            seen[u] = BEGINNING;
            fresh[u] = BEGINNING;
            boolean more = true;
            for (int n = 0; more && n <= MOST_STEPS; n++) {
                more = spreads(asked, all);
            }
            int found = 0;
            for (int v = 0; v < VERTICES; v++) {
                if (asked.finishes(seen[v])) {
                    found |= 1 << v;
                }
            }
            return found;
        }

        /** Takes one STEP from all that is fresh: whether anything is fresh again. */
        boolean spreads(Expression asked, Steps all) {
            for (int v = 0; v < VERTICES; v++) {
                going[v] = fresh[v] == 0 ? 0 : asked.behind(fresh[v]);
                fresh[v] = 0;
            }
            boolean more = false;
            for (int i = 0; i < all.size; i++) {
                int to = all.to[i];
                int came = going[all.from[i]] & asked.bearing[all.sign[i]] & ~seen[to];
                if (came != 0) {
                    seen[to] |= came;
                    fresh[to] |= came;
                    more = true;
                }
            }
            return more;
        }
    }

    /** The first of the shortest ROUTES, found from its end: how many STEPS are left from where. */
    private static final class Shortest {
        final int[] left = new int[(MOST_STEPS + 1) * VERTICES];
        final int[] seen = new int[VERTICES];
        final int[] path = new int[MOST_STEPS];

        /** How many STEPS the shortest ROUTE that FITS has; NONE: there is none. */
        int lengthOf(Expression asked, Steps all, int u, int v) {
            Arrays.fill(seen, 0);
            for (int w = 0; w < VERTICES; w++) {
                left[w] = 0;
            }
            seen[v] = asked.last;
            left[v] = asked.last;
            for (int n = 0; n < MOST_STEPS; n++) {
                if ((seen[u] & BEGINNING) != 0) {
                    return n;
                }
                if (!widens(asked, all, n)) {
                    return NONE;
                }
            }
            return NONE;
        }

        /** Finds what has one STEP more left than n: whether there is any. */
        boolean widens(Expression asked, Steps all, int n) {
            int here = n * VERTICES;
            int next = here + VERTICES;
            for (int w = 0; w < VERTICES; w++) {
                left[next + w] = 0;
            }
            boolean more = false;
            for (int i = 0; i < all.size; i++) {
                int into = left[here + all.to[i]] & asked.bearing[all.sign[i]];
                int from = all.from[i];
                int came = into == 0 ? 0 : asked.aheadOf(into) & ~seen[from];
                if (came != 0) {
                    seen[from] |= came;
                    left[next + from] |= came;
                    more = true;
                }
            }
            return more;
        }

        /** Writes the first of the shortest ROUTES into the path: its length; NONE: there is none. */
        int trace(Expression asked, Steps all, int u, int v) {
            int length = lengthOf(asked, all, u, v);
            int at = u;
            int set = BEGINNING;
            for (int k = 0; k < length; k++) {
                int step = firstStep(asked, all, at, set, (length - k - 1) * VERTICES);
                if (step == NONE) {
                    return NONE;
                }
                path[k] = step;
                set = asked.after(set, all.sign[step]);
                at = all.to[step];
            }
            return length;
        }

        /** The first STEP that leads to one of those with so many left as the row tells. */
        int firstStep(Expression asked, Steps all, int at, int set, int row) {
            int going = asked.behind(set);
            for (int i = 0; i < all.size; i++) {
                if (all.from[i] == at
                        && (going & asked.bearing[all.sign[i]] & left[row + all.to[i]]) != 0) {
                    return i;
                }
            }
            return NONE;
        }
    }

    /** Numbers keys 0, 1, .. as they come, up to a limit. */
    private static final class Table {
        static final int SLOTS = 1024;

        final long[] keys = new long[MOST_STATES];
        final int[] slots = new int[SLOTS];
        int size = 0;
        int limit = 0;

        void reset(int most) {
            Arrays.fill(slots, 0);
            size = 0;
            limit = Math.min(most, MOST_STATES);
        }

        /** The number of a key, a new one if need be; NONE: that would be one too many. */
        int numberOf(long key) {
            int slot = (int) (key * 0x9E3779B97F4A7C15L >>> 54);
            for (int tries = 0; tries < SLOTS; tries++) {
                // Slots hold one more than the number, so that 0 is a free one.
                int held = slots[slot];
                if (held != 0 && keys[held - 1] == key) {
                    return held - 1;
                }
                if (held == 0 && size >= limit) {
                    return NONE;
                }
                if (held == 0) {
                    keys[size] = key;
                    size++;
                    slots[slot] = size;
                    return size - 1;
                }
                slot = slot + 1 & SLOTS - 1;
            }
            return NONE;
        }
    }

    /** Counts ROUTES by the STATE and the VERTEX that they lead to, STEP by STEP. */
    private static final class Tally {
        static final int TOO_MANY = MOST_ROUTES + 1;

        final Table states = new Table();
        final int[] nextState = new int[MOST_STATES * SIGNS];
        int[] ways = new int[MOST_STATES * VERTICES];
        int[] waysThen = new int[MOST_STATES * VERTICES];

        /** How many ROUTES of n STEPS from u to v FIT; FULL: too many of them, or of STATES. */
        int routesOf(Expression asked, Steps all, int u, int v, int n) {
            states.reset(MOST_STATES);
            int start = stateOf(BEGINNING);
            if (start == NONE) {
                return FULL;
            }
            ways[start * VERTICES + u] = 1;
            for (int k = 0; k < n; k++) {
                if (!advances(asked, all)) {
                    return FULL;
                }
            }
            return total(asked, v);
        }

        int total(Expression asked, int v) {
            int many = 0;
            for (int s = 0; s < states.size; s++) {
                if (asked.finishes((int) states.keys[s])) {
                    many = Math.min(TOO_MANY, many + ways[s * VERTICES + v]);
                }
            }
            return many == TOO_MANY ? FULL : many;
        }

        boolean advances(Expression asked, Steps all) {
            int known = states.size;
            for (int s = 0; s < known; s++) {
                // Nothing leads out of the empty set: its ROUTES need not be followed.
                if (states.keys[s] != 0 && !advancesFrom(asked, all, s)) {
                    return false;
                }
                for (int w = 0; w < VERTICES; w++) {
                    ways[s * VERTICES + w] = 0;
                }
            }
            int[] done = ways;
            ways = waysThen;
            waysThen = done;
            return true;
        }

        boolean advancesFrom(Expression asked, Steps all, int s) {
            for (int i = 0; i < all.size; i++) {
                int many = ways[s * VERTICES + all.from[i]];
                if (many != 0) {
                    int t = stateBehind(asked, s, all.sign[i]);
                    if (t == NONE) {
                        return false;
                    }
                    int cell = t * VERTICES + all.to[i];
                    waysThen[cell] = Math.min(TOO_MANY, waysThen[cell] + many);
                }
            }
            return true;
        }

        int stateBehind(Expression asked, int s, int sign) {
            int cell = s * SIGNS + sign;
            if (nextState[cell] == NONE) {
                nextState[cell] = stateOf(asked.after((int) states.keys[s], sign));
            }
            return nextState[cell];
        }

        /** The number of a STATE; a new one has no ROUTES yet; NONE: that would be one too many. */
        int stateOf(int set) {
            int known = states.size;
            int s = states.numberOf(set);
            if (s == known) {
                for (int w = 0; w < VERTICES; w++) {
                    ways[s * VERTICES + w] = 0;
                    waysThen[s * VERTICES + w] = 0;
                }
                for (int sign = 0; sign < SIGNS; sign++) {
                    nextState[s * SIGNS + sign] = NONE;
                }
            }
            return s;
        }
    }

    /** Follows all WORDS through two EXPRESSIONS at once. */
    private static final class Comparison {
        final Table pairsSeen = new Table();

        /** How many STATES an EXPRESSION has: as many as pairs of it with itself; FULL. */
        int statesOf(Expression asked) {
            int answer = shortestBeyond(asked, asked, MOST_STATES_TOLD);
            return answer == FULL ? FULL : pairsSeen.size;
        }

        /** The length of the shortest WORD that x accepts and y does not; NONE; FULL. */
        int shortestBeyond(Expression x, Expression y, int limit) {
            pairsSeen.reset(limit);
            pairsSeen.numberOf(pairOf(BEGINNING, BEGINNING));
            int done = 0;
            for (int n = 0; n <= MOST_STATES; n++) {
                int known = pairsSeen.size;
                if (tellsApart(x, y, done, known)) {
                    return n;
                }
                if (!widens(x, y, done, known)) {
                    return FULL;
                }
                if (pairsSeen.size == known) {
                    return NONE;
                }
                done = known;
            }
            return NONE;
        }

        static long pairOf(int setOfX, int setOfY) {
            return (long) setOfX << 32 | setOfY;
        }

        boolean tellsApart(Expression x, Expression y, int from, int to) {
            for (int i = from; i < to; i++) {
                long pair = pairsSeen.keys[i];
                if (x.finishes((int) (pair >>> 32)) && !y.finishes((int) pair)) {
                    return true;
                }
            }
            return false;
        }

        /** Finds the pairs one sign behind these; false: there are too many. */
        boolean widens(Expression x, Expression y, int from, int to) {
            for (int i = from; i < to; i++) {
                long pair = pairsSeen.keys[i];
                int behindX = x.behind((int) (pair >>> 32));
                int behindY = y.behind((int) pair);
                for (int s = 0; s < SIGNS; s++) {
                    long next = pairOf(behindX & x.bearing[s], behindY & y.bearing[s]);
                    if (pairsSeen.numberOf(next) == NONE) {
                        return false;
                    }
                }
            }
            return true;
        }
    }

    /** The STANDING answers: which EXPRESSION's, the pairs that are kept, and what came and went. */
    private static final class Standing {
        final int[] rows = new int[VERTICES];
        int which = NONE;
        int came = 0;
        int lost = 0;

        int size() {
            int many = 0;
            for (int u = 0; u < VERTICES; u++) {
                many += Integer.bitCount(rows[u]);
            }
            return many;
        }
    }
}
