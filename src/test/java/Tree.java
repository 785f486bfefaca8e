import java.util.ArrayList;
import java.util.List;
import java.util.Set;
import java.util.TreeMap;
import java.util.TreeSet;

/** An expression as a tree, read by descent: told in another way than the class does it. */
final class Tree {
    enum Kind { SIGN, EMPTY, ROW, CHOICE, MANY, SOME, PERHAPS }

    final Kind kind;
    final List<Tree> parts = new ArrayList<>();
    String signs = "";
    int place = -1;

    private Tree(Kind kind) {
        this.kind = kind;
    }

    static final class Wrong extends Exception {
        private static final long serialVersionUID = 1;
    }

    /** The tree of a text; null: it is no expression. */
    static Tree of(String text) {
        Descent d = new Descent(text.replace(" ", ""));
        try {
            Tree t = d.choice();
            return d.at == d.text.length() && d.places <= 24 ? t : null;
        } catch (Wrong w) {
            return null;
        }
    }

    static int placesOf(String text) {
        return text.replaceAll("[^a-dA-D.-]", "").length();
    }

    /** The place of the first byte behind which no text could go on to an expression; -1: none. */
    static int faultOf(String text) {
        for (int i = 0; i < text.length(); i++) {
            if (!canGoOn(text.substring(0, i + 1))) {
                return i;
            }
        }
        return of(text) == null ? text.length() : -1;
    }

    private static boolean canGoOn(String begun) {
        for (int k = 0; k <= begun.length(); k++) {
            if (of(begun + ")".repeat(k)) != null || of(begun + "()" + ")".repeat(k)) != null) {
                return true;
            }
        }
        return false;
    }

    private static final class Descent {
        final String text;
        int at = 0;
        int places = 0;

        Descent(String text) {
            this.text = text;
        }

        char next() {
            return at < text.length() ? text.charAt(at) : '$';
        }

        Tree choice() throws Wrong {
            Tree t = new Tree(Kind.CHOICE);
            t.parts.add(row());
            while (next() == '|') {
                at++;
                t.parts.add(row());
            }
            return t;
        }

        Tree row() throws Wrong {
            Tree t = new Tree(Kind.ROW);
            t.parts.add(part());
            while ("abcdABCD.-(".indexOf(next()) >= 0) {
                t.parts.add(part());
            }
            return t;
        }

        Tree part() throws Wrong {
            Tree t = atom();
            while ("*+?".indexOf(next()) >= 0) {
                Tree more = new Tree(next() == '*' ? Kind.MANY : next() == '+' ? Kind.SOME : Kind.PERHAPS);
                more.parts.add(t);
                t = more;
                at++;
            }
            return t;
        }

        Tree atom() throws Wrong {
            char c = next();
            at++;
            if (c == '(' && next() == ')') {
                at++;
                return new Tree(Kind.EMPTY);
            }
            if (c == '(') {
                Tree t = choice();
                if (next() != ')') {
                    throw new Wrong();
                }
                at++;
                return t;
            }
            if ("abcdABCD.-".indexOf(c) < 0) {
                throw new Wrong();
            }
            Tree t = new Tree(Kind.SIGN);
            t.place = places++;
            t.signs = c == '.' ? "0123" : c == '-' ? "4567" : "" + "abcdABCD".indexOf(c);
            return t;
        }
    }

    // ---- whether a word is accepted, by trying every way to cut it

    boolean takes(String word) {
        return endsOf(word, 0).contains(word.length());
    }

    private Set<Integer> endsOf(String word, int at) {
        Set<Integer> ends = new TreeSet<>();
        switch (kind) {
            case SIGN:
                if (at < word.length() && signs.indexOf(word.charAt(at)) >= 0) {
                    ends.add(at + 1);
                }
                return ends;
            case EMPTY:
                ends.add(at);
                return ends;
            case CHOICE:
                for (Tree t : parts) {
                    ends.addAll(t.endsOf(word, at));
                }
                return ends;
            case ROW:
                ends.add(at);
                for (Tree t : parts) {
                    ends = t.endsOfAll(word, ends);
                }
                return ends;
            case PERHAPS:
                ends.add(at);
                ends.addAll(parts.get(0).endsOf(word, at));
                return ends;
            default:
                Set<Integer> from = new TreeSet<>();
                from.add(at);
                for (int k = 0; k <= word.length() + 1; k++) {
                    from = parts.get(0).endsOfAll(word, from);
                    ends.addAll(from);
                    from = new TreeSet<>(ends);
                }
                if (kind == Kind.MANY) {
                    ends.add(at);
                }
                return ends;
        }
    }

    private Set<Integer> endsOfAll(String word, Set<Integer> from) {
        Set<Integer> ends = new TreeSet<>();
        for (int at : from) {
            ends.addAll(endsOf(word, at));
        }
        return ends;
    }

    // ---- places: first, last, follow

    boolean takesNothing() {
        return takes("");
    }

    Set<Integer> first() {
        Set<Integer> all = new TreeSet<>();
        if (kind == Kind.SIGN) {
            all.add(place);
        }
        for (Tree t : parts) {
            all.addAll(t.first());
            if (kind == Kind.ROW && !t.takesNothing()) {
                break;
            }
        }
        return all;
    }

    Set<Integer> last() {
        Set<Integer> all = new TreeSet<>();
        if (kind == Kind.SIGN) {
            all.add(place);
        }
        for (int i = parts.size() - 1; i >= 0; i--) {
            all.addAll(parts.get(i).last());
            if (kind == Kind.ROW && !parts.get(i).takesNothing()) {
                break;
            }
        }
        return all;
    }

    /** Adds all pairs of places that can stand one right behind the other. */
    void follow(TreeMap<Integer, Set<Integer>> all) {
        for (Tree t : parts) {
            t.follow(all);
        }
        if (kind == Kind.MANY || kind == Kind.SOME) {
            link(all, last(), first());
        }
        if (kind == Kind.ROW) {
            for (int i = 0; i < parts.size(); i++) {
                for (int j = i + 1; j < parts.size(); j++) {
                    link(all, parts.get(i).last(), parts.get(j).first());
                    if (!parts.get(j).takesNothing()) {
                        break;
                    }
                }
            }
        }
    }

    private static void link(TreeMap<Integer, Set<Integer>> all, Set<Integer> these, Set<Integer> behind) {
        for (int p : these) {
            all.computeIfAbsent(p, q -> new TreeSet<>()).addAll(behind);
        }
    }

    void signsOf(TreeMap<Integer, String> all) {
        if (kind == Kind.SIGN) {
            all.put(place, signs);
        }
        for (Tree t : parts) {
            t.signsOf(all);
        }
    }
}
