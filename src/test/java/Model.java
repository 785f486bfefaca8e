import java.util.ArrayDeque;
import java.util.ArrayList;
import java.util.HashMap;
import java.util.HashSet;
import java.util.List;
import java.util.Map;
import java.util.Set;
import java.util.TreeMap;
import java.util.TreeSet;

/** The document once more, slow and plain: STATES are sets of numbers, ROUTES go by STATES. */
final class Model {
    static final int NONE = -1, BAD = -2, NO = -3, FULL = -4;
    static final Set<Integer> START = Set.of(-1);

    /** An EXPRESSION by its tree, with what its PLACES are. */
    static final class Told {
        final Tree tree;
        final int places;
        final TreeMap<Integer, Set<Integer>> follow = new TreeMap<>();
        final TreeMap<Integer, String> signs = new TreeMap<>();
        final Map<String, Set<Integer>> known = new HashMap<>();

        Told(String text) {
            tree = Tree.of(text);
            places = Tree.placesOf(text);
            tree.follow(follow);
            tree.signsOf(signs);
        }

        Set<Integer> next(Set<Integer> state, int sign) {
            return known.computeIfAbsent(state + " " + sign, k -> nextAnew(state, sign));
        }

        private Set<Integer> nextAnew(Set<Integer> state, int sign) {
            Set<Integer> all = new TreeSet<>();
            for (int p : state) {
                for (int q : p == -1 ? tree.first() : follow.getOrDefault(p, Set.of())) {
                    if (signs.get(q).indexOf('0' + sign) >= 0) {
                        all.add(q);
                    }
                }
            }
            return all;
        }

        boolean ends(Set<Integer> state) {
            if (state.equals(START)) {
                return tree.takesNothing();
            }
            Set<Integer> both = new TreeSet<>(tree.last());
            both.retainAll(state);
            return !both.isEmpty();
        }
    }

    record At(int vertex, Set<Integer> state) {
    }

    record Step(int edge, int way, int from, int sign, int to) {
    }

    final List<int[]> edges = new ArrayList<>();
    String text = "";
    final Told[] told = new Told[4];
    final int[] refused = new int[3];
    int stands = NONE;
    Set<Integer> kept = new TreeSet<>();
    int came = 0;
    int lost = 0;

    int refuse(int why) {
        refused[-2 - why]++;
        return why;
    }

    static boolean in(int n, int from, int to) {
        return n >= from && n <= to;
    }

    // ---- the graph

    boolean has(int u, int letter, int v) {
        return edges.stream().anyMatch(e -> e[0] == u && e[1] == letter && e[2] == v);
    }

    int edge(int u, int letter, int v) {
        if (!in(u, 0, 9) || !in(letter, 0, 3) || !in(v, 0, 9)) return refuse(BAD);
        if (has(u, letter, v)) return refuse(NO);
        if (edges.size() == 30) return refuse(FULL);
        edges.add(new int[] {u, letter, v});
        Set<Integer> before = kept;
        keep();
        Set<Integer> fresh = new TreeSet<>(kept);
        fresh.removeAll(before);
        came += fresh.size();
        return fresh.size();
    }

    int drop(int e) {
        if (!in(e, 0, edges.size() - 1)) return refuse(BAD);
        edges.remove(e);
        Set<Integer> gone = new TreeSet<>(kept);
        keep();
        gone.removeAll(kept);
        lost += gone.size();
        return gone.size();
    }

    int anew() {
        int had = edges.size();
        edges.clear();
        keep();
        return had;
    }

    int of(int e, int what) {
        if (!in(e, 0, edges.size() - 1) || !in(what, 0, 2)) return refuse(BAD);
        return edges.get(e)[what];
    }

    int degree(int v, int what) {
        if (!in(v, 0, 9) || !in(what, 0, 1)) return refuse(BAD);
        return (int) edges.stream().filter(e -> e[2 * what] == v).count();
    }

    // ---- expressions

    int type(int c) {
        if (!in(c, 0, 127)) return refuse(BAD);
        if (text.length() == 80) return refuse(FULL);
        text += (char) c;
        return text.length();
    }

    int clear() {
        int had = text.length();
        text = "";
        return had;
    }

    int reads(int x) {
        if (!in(x, 0, 3)) return refuse(BAD);
        int fault = Tree.faultOf(text);
        if (fault >= 0) return -10 - fault;
        told[x] = new Told(text);
        if (stands == x) keep();
        return told[x].places;
    }

    int about(int x, int what) {
        if (!in(x, 0, 3) || !in(what, 0, 4)) return refuse(BAD);
        Told t = told[x];
        if (t == null) return NONE;
        if (what == 0) return t.places;
        if (what == 1) return t.tree.takesNothing() ? 1 : 0;
        if (what == 2) return t.tree.first().size();
        if (what == 3) return t.tree.last().size();
        Set<Set<Integer>> all = new HashSet<>();
        ArrayDeque<Set<Integer>> open = new ArrayDeque<>();
        all.add(START);
        open.add(START);
        while (!open.isEmpty() && all.size() <= 200) {
            Set<Integer> s = open.remove();
            for (int sign = 0; sign < 8; sign++) {
                if (all.add(t.next(s, sign))) open.add(t.next(s, sign));
            }
        }
        return all.size() > 200 ? refuse(FULL) : all.size();
    }

    int accepts(int x, int n, int code) {
        if (!in(x, 0, 3) || !in(n, 0, 9) || code < 0) return refuse(BAD);
        String word = code == 0 ? "" : "" + code;
        if (word.length() > n || word.indexOf('8') >= 0 || word.indexOf('9') >= 0) return refuse(BAD);
        if (told[x] == null) return refuse(NO);
        return told[x].tree.takes("0".repeat(n - word.length()) + word) ? 1 : 0;
    }

    int words(int x, int n) {
        if (!in(x, 0, 3) || !in(n, 0, 9)) return refuse(BAD);
        if (told[x] == null) return refuse(NO);
        List<Step> all = new ArrayList<>();
        for (int s = 0; s < 8; s++) {
            all.add(new Step(s, 0, 0, s, 0));
        }
        long many = tally(told[x], all, 0, 0, n);
        return many < 0 ? refuse(FULL) : (int) many;
    }

    int beyond(int x, int y) {
        if (!in(x, 0, 3) || !in(y, 0, 3)) return refuse(BAD);
        if (told[x] == null || told[y] == null) return refuse(NO);
        Set<List<Set<Integer>>> all = new HashSet<>();
        Set<List<Set<Integer>>> layer = Set.of(List.of(START, START));
        for (int n = 0; !layer.isEmpty(); n++) {
            all.addAll(layer);
            if (all.size() > 400) return refuse(FULL);
            for (List<Set<Integer>> pair : layer) {
                if (told[x].ends(pair.get(0)) && !told[y].ends(pair.get(1))) return n;
            }
            Set<List<Set<Integer>>> then = new HashSet<>();
            for (List<Set<Integer>> pair : layer) {
                for (int s = 0; s < 8; s++) {
                    then.add(List.of(told[x].next(pair.get(0), s), told[y].next(pair.get(1), s)));
                }
            }
            then.removeAll(all);
            layer = then;
        }
        return NONE;
    }

    /** How many STATES the WORDS of n signs or fewer lead to, without any limit. */
    static int statesBy(String text, int n) {
        return pairsBy(text, text, n);
    }

    static int pairsBy(String one, String other, int n) {
        Told x = new Told(one);
        Told y = new Told(other);
        Set<List<Set<Integer>>> all = new HashSet<>(Set.of(List.of(START, START)));
        List<List<Set<Integer>>> layer = new ArrayList<>(all);
        for (int k = 0; k < n && !layer.isEmpty(); k++) {
            List<List<Set<Integer>>> then = new ArrayList<>();
            for (List<Set<Integer>> pair : layer) {
                for (int s = 0; s < 8; s++) {
                    List<Set<Integer>> to = List.of(x.next(pair.get(0), s), y.next(pair.get(1), s));
                    if (all.add(to)) then.add(to);
                }
            }
            layer = then;
        }
        return all.size();
    }

    // ---- routes

    List<Step> steps(int without) {
        List<Step> all = new ArrayList<>();
        for (int way = 0; way < 2; way++) {
            for (int e = 0; e < edges.size(); e++) {
                int[] it = edges.get(e);
                if (e != without) all.add(new Step(e, way, it[2 * way], it[1] + 4 * way, it[2 - 2 * way]));
            }
        }
        return all;
    }

    /** How many ROUTES; -1: too many of them, or of STATES. */
    static long tally(Told t, List<Step> steps, int u, int v, int n) {
        Map<At, Long> ways = new HashMap<>();
        ways.put(new At(u, START), 1L);
        Set<Set<Integer>> states = new HashSet<>();
        states.add(START);
        for (int k = 0; k < n; k++) {
            Map<At, Long> then = new HashMap<>();
            for (Map.Entry<At, Long> w : ways.entrySet()) {
                for (Step s : steps) {
                    if (s.from() == w.getKey().vertex()) {
                        At to = new At(s.to(), t.next(w.getKey().state(), s.sign()));
                        then.merge(to, w.getValue(), Long::sum);
                        states.add(to.state());
                    }
                }
            }
            if (states.size() > 400) return -1;
            ways = then;
        }
        long many = 0;
        for (Map.Entry<At, Long> w : ways.entrySet()) {
            if (w.getKey().vertex() == v && t.ends(w.getKey().state())) many += w.getValue();
        }
        return many > 1000000000L ? -1 : many;
    }

    /** The first of the shortest ROUTES, by going through all STATES in the order of ROUTES. */
    static List<Step> first(Told t, List<Step> steps, int u, int v) {
        Map<At, List<Step>> ways = new HashMap<>();
        ArrayDeque<At> open = new ArrayDeque<>();
        open.add(new At(u, START));
        ways.put(new At(u, START), List.of());
        while (!open.isEmpty()) {
            At at = open.remove();
            if (at.vertex() == v && t.ends(at.state())) return ways.get(at);
            for (Step s : steps) {
                At to = new At(s.to(), t.next(at.state(), s.sign()));
                if (s.from() == at.vertex() && !ways.containsKey(to) && !to.state().isEmpty()) {
                    List<Step> way = new ArrayList<>(ways.get(at));
                    way.add(s);
                    ways.put(to, way);
                    open.add(to);
                }
            }
        }
        return null;
    }

    /** All ends of ROUTES from u, by PLACES: a set of VERTICES and PLACES that grows until it stays. */
    static int endsOf(Told t, List<Step> steps, int u) {
        Set<List<Integer>> all = new HashSet<>();
        all.add(List.of(u, -1));
        boolean grows = true;
        while (grows) {
            Set<List<Integer>> more = new HashSet<>(all);
            for (List<Integer> at : all) {
                for (Step s : steps) {
                    if (s.from() == at.get(0)) {
                        for (int q : t.next(Set.of(at.get(1)), s.sign())) {
                            more.add(List.of(s.to(), q));
                        }
                    }
                }
            }
            grows = more.size() > all.size();
            all = more;
        }
        int bits = 0;
        for (List<Integer> at : all) {
            if (t.ends(Set.of(at.get(1)))) bits |= 1 << at.get(0);
        }
        return bits;
    }

    int refusal(int x, int u, int v) {
        if (!in(x, 0, 3) || !in(u, 0, 9) || !in(v, 0, 9)) return refuse(BAD);
        return told[x] == null ? refuse(NO) : 0;
    }

    int answers(int x, int u, int v) {
        int no = refusal(x, u, v);
        return no != 0 ? no : first(told[x], steps(-1), u, v) != null ? 1 : 0;
    }

    int ends(int x, int u) {
        int no = refusal(x, u, 0);
        return no != 0 ? no : endsOf(told[x], steps(-1), u);
    }

    int pairs(int x) {
        int no = refusal(x, 0, 0);
        return no != 0 ? no : answersOf(x).size();
    }

    Set<Integer> answersOf(int x) {
        Set<Integer> all = new TreeSet<>();
        for (int u = 0; u < 10; u++) {
            int bits = endsOf(told[x], steps(-1), u);
            for (int v = 0; v < 10; v++) {
                if ((bits >> v & 1) != 0) all.add(10 * u + v);
            }
        }
        return all;
    }

    int far(int x, int u, int v) {
        int no = refusal(x, u, v);
        if (no != 0) return no;
        List<Step> way = first(told[x], steps(-1), u, v);
        return way == null ? NONE : way.size();
    }

    int count(int x, int u, int v, int n) {
        if (!in(n, 0, 12)) return refuse(BAD);
        int no = refusal(x, u, v);
        if (no != 0) return no;
        long many = tally(told[x], steps(-1), u, v, n);
        return many < 0 ? refuse(FULL) : (int) many;
    }

    int route(int x, int u, int v, int k, int what) {
        if (k < 0 || !in(what, 0, 2)) return refuse(BAD);
        int no = refusal(x, u, v);
        if (no != 0) return no;
        List<Step> way = first(told[x], steps(-1), u, v);
        if (way == null || k >= way.size()) return NONE;
        Step s = way.get(k);
        return what == 0 ? s.edge() : what == 1 ? s.way() : s.to();
    }

    int bridge(int x, int u, int v) {
        int no = refusal(x, u, v);
        if (no != 0) return no;
        if ((endsOf(told[x], steps(-1), u) >> v & 1) == 0) return NONE;
        for (int e = 0; e < edges.size(); e++) {
            if ((endsOf(told[x], steps(e), u) >> v & 1) == 0) return e;
        }
        return NONE;
    }

    // ---- standing answers

    void keep() {
        kept = stands == NONE ? new TreeSet<>() : answersOf(stands);
    }

    int stand(int x) {
        if (!in(x, -1, 3)) return refuse(BAD);
        if (x >= 0 && told[x] == null) return refuse(NO);
        stands = x;
        came = 0;
        lost = 0;
        keep();
        return kept.size();
    }

    int standing(int what) {
        if (!in(what, 0, 3)) return refuse(BAD);
        return new int[] {stands, kept.size(), came, lost}[what];
    }

    int kept(int u, int v) {
        if (!in(u, 0, 9) || !in(v, 0, 9)) return refuse(BAD);
        return stands == NONE ? refuse(NO) : kept.contains(10 * u + v) ? 1 : 0;
    }

    // ---- drawn

    int draw(int seed, int n) {
        if (!in(seed, 0, 999999) || !in(n, 0, 30)) return refuse(BAD);
        edges.clear();
        java.math.BigInteger x = java.math.BigInteger.valueOf(seed);
        for (int k = 0; k < n; k++) {
            x = x.multiply(java.math.BigInteger.valueOf(1103515245)).add(java.math.BigInteger.valueOf(12345))
                    .mod(java.math.BigInteger.valueOf(2147483648L));
            int now = x.intValueExact();
            int[] e = {now / 65536 % 10, now / 1024 % 4, now / 4096 % 10};
            if (!has(e[0], e[1], e[2])) edges.add(e);
        }
        keep();
        return edges.size();
    }

    int told(int what) {
        if (!in(what, 0, 6)) return refuse(BAD);
        int places = 0;
        for (Told t : told) {
            places += t == null ? 0 : t.places;
        }
        return new int[] {refused[0], refused[1], refused[2], text.length(), edges.size(), places, stands}[what];
    }

    long digest() {
        List<Integer> all = new ArrayList<>();
        for (int what = 0; what < 7; what++) {
            all.add(told(what));
        }
        for (int[] e : edges) {
            all.addAll(List.of(e[0], e[1], e[2]));
        }
        for (int x = 0; x < 4; x++) {
            all.add(told[x] == null ? -1 : answersOf(x).size());
        }
        all.addAll(List.of(kept.size(), came, lost));
        long h = 1931;
        for (int v : all) {
            h = 31 * h + v;
        }
        return h;
    }
}
