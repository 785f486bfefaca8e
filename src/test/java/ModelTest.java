import java.util.Random;

/** Drawn runs of calls of every kind, each answer compared with that of the slow model. */
public final class ModelTest {
    private static final String[] CALLS = {"edge", "drop", "anew", "of", "degree", "type", "clear", "reads",
        "about", "accepts", "words", "beyond", "answers", "ends", "pairs", "far", "count", "route", "bridge",
        "stand", "standing", "kept", "draw", "told", "digest"};

    private static final int MOST_CALLS = 512;

    private final SpeltRoutes real = new SpeltRoutes();
    private final Model model = new Model();
    private final Random random;
    private final StringBuilder done = new StringBuilder();

    private ModelTest(int seed) {
        random = new Random(seed);
    }

    public static void main(String[] args) {
        int runs = args.length > 0 ? Integer.parseInt(args[0]) : 120;
        for (int seed = 1; seed <= runs && !Due.wrongYet(); seed++) {
            new ModelTest(seed).run();
        }
        Due.end();
    }

    private void run() {
        boolean wild = random.nextInt(4) == 0;
        for (int calls = 0; calls < MOST_CALLS && !Due.wrongYet(); ) {
            int way = random.nextInt(10);
            if (way == 0 && calls + 83 <= MOST_CALLS) {
                calls += typeAll();
            } else if (way == 1) {
                call(0, vertex(), random.nextInt(4), vertex(), 0, 0);
                calls++;
            } else {
                callAny(wild);
                calls++;
            }
        }
        if (Due.wrongYet()) {
            System.out.println("run: " + done);
        }
    }

    /** Types a drawn expression, mostly a right one, and reads it. */
    private int typeAll() {
        String text = random.nextInt(5) == 0 ? noise() : expression(3 + random.nextInt(3));
        call(6, 0, 0, 0, 0, 0);
        for (int i = 0; i < text.length() && i < 81; i++) {
            call(5, text.charAt(i), 0, 0, 0, 0);
        }
        call(7, random.nextInt(4), 0, 0, 0, 0);
        return Math.min(81, text.length()) + 2;
    }

    private String noise() {
        StringBuilder s = new StringBuilder();
        for (int n = random.nextInt(14); n > 0; n--) {
            s.append("abcdABCD.-()|*+? ()|*e".charAt(random.nextInt(22)));
        }
        return s.toString();
    }

    private String expression(int depth) {
        int kind = random.nextInt(depth <= 0 ? 4 : 12);
        String blank = random.nextInt(12) == 0 ? " " : "";
        if (kind < 4) {
            return blank + "abcdABCD.-aabbAB".charAt(random.nextInt(16));
        }
        if (kind < 5) {
            return "(" + blank + ")";
        }
        if (kind < 8) {
            return expression(depth - 1) + expression(depth - 1);
        }
        if (kind < 10) {
            return "(" + expression(depth - 1) + "|" + expression(depth - 1) + blank + ")";
        }
        return "(" + expression(depth - 1) + ")" + "*+?".charAt(random.nextInt(3)) + blank;
    }

    private int vertex() {
        return random.nextInt(random.nextBoolean() ? 10 : 4);
    }

    private void callAny(boolean wild) {
        int c = random.nextInt(CALLS.length);
        if ((c == 2 || c == 22 || c == 6) && random.nextInt(6) != 0) {
            return;
        }
        int x = random.nextInt(4);
        int n = random.nextInt(6);
        if (wild && random.nextInt(3) == 0) {
            call(c, any(), any(), any(), any(), any());
        } else if (c == 0) {
            call(c, vertex(), random.nextInt(4), vertex(), 0, 0);
        } else if (c == 1 || c == 3) {
            call(c, random.nextInt(31), n, 0, 0, 0);
        } else if (c == 4 || c == 21) {
            call(c, vertex(), random.nextInt(c == 4 ? 3 : 10), 0, 0, 0);
        } else if (c == 9) {
            call(c, x, n, word(n), 0, 0);
        } else if (c == 10) {
            call(c, x, random.nextInt(11), 0, 0, 0);
        } else if (c == 16) {
            call(c, x, vertex(), vertex(), random.nextInt(14), 0);
        } else if (c == 17) {
            call(c, x, vertex(), vertex(), random.nextInt(4), random.nextInt(3));
        } else if (c == 19) {
            call(c, random.nextInt(5) - 1, 0, 0, 0, 0);
        } else if (c == 22) {
            call(c, random.nextInt(1000000), random.nextInt(31), 0, 0, 0);
        } else {
            call(c, x, vertex() % (c == 8 ? 5 : c == 11 ? 4 : 10), vertex(), vertex(), 0);
        }
    }

    private int word(int n) {
        int code = 0;
        for (int k = 0; k < n; k++) {
            code = 10 * code + random.nextInt(random.nextInt(20) == 0 ? 10 : 8);
        }
        return random.nextInt(20) == 0 ? code + 7000000 : code;
    }

    private int any() {
        int[] all = {-2147483648, -5, -2, -1, 0, 1, 2, 3, 4, 5, 7, 9, 10, 12, 13, 29, 30, 31, 80, 127, 128,
            999999, 1000000, 77777777, 777777777, 1000000000, 2147483647};
        return all[random.nextInt(all.length)];
    }

    private void call(int c, int p, int q, int r, int s, int t) {
        String name = CALLS[c] + "(" + p + ", " + q + ", " + r + ", " + s + ", " + t + ")";
        if (c == 5) {
            name = CALLS[c] + "'" + (char) p + "'";
        }
        done.append(name).append(' ');
        Due.is(name, ask(c, p, q, r, s, t), askModel(c, p, q, r, s, t));
    }

    private long ask(int c, int p, int q, int r, int s, int t) {
        return switch (c) {
            case 0 -> real.edge(p, q, r);
            case 1 -> real.drop(p);
            case 2 -> real.anew();
            case 3 -> real.of(p, q);
            case 4 -> real.degree(p, q);
            case 5 -> real.type(p);
            case 6 -> real.clear();
            case 7 -> real.reads(p);
            case 8 -> real.about(p, q);
            case 9 -> real.accepts(p, q, r);
            case 10 -> real.words(p, q);
            case 11 -> real.beyond(p, q);
            case 12 -> real.answers(p, q, r);
            case 13 -> real.ends(p, q);
            case 14 -> real.pairs(p);
            case 15 -> real.far(p, q, r);
            case 16 -> real.count(p, q, r, s);
            case 17 -> real.route(p, q, r, s, t);
            case 18 -> real.bridge(p, q, r);
            case 19 -> real.stand(p);
            case 20 -> real.standing(p);
            case 21 -> real.kept(p, q);
            case 22 -> real.draw(p, q);
            case 23 -> real.told(p);
            default -> real.digest();
        };
    }

    private long askModel(int c, int p, int q, int r, int s, int t) {
        return switch (c) {
            case 0 -> model.edge(p, q, r);
            case 1 -> model.drop(p);
            case 2 -> model.anew();
            case 3 -> model.of(p, q);
            case 4 -> model.degree(p, q);
            case 5 -> model.type(p);
            case 6 -> model.clear();
            case 7 -> model.reads(p);
            case 8 -> model.about(p, q);
            case 9 -> model.accepts(p, q, r);
            case 10 -> model.words(p, q);
            case 11 -> model.beyond(p, q);
            case 12 -> model.answers(p, q, r);
            case 13 -> model.ends(p, q);
            case 14 -> model.pairs(p);
            case 15 -> model.far(p, q, r);
            case 16 -> model.count(p, q, r, s);
            case 17 -> model.route(p, q, r, s, t);
            case 18 -> model.bridge(p, q, r);
            case 19 -> model.stand(p);
            case 20 -> model.standing(p);
            case 21 -> model.kept(p, q);
            case 22 -> model.draw(p, q);
            case 23 -> model.told(p);
            default -> model.digest();
        };
    }
}
