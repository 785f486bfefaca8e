/** What the tests share: each answer is compared with the one that is due, and told if it is not. */
final class Due {
    private static int wrong = 0;
    private static int seen = 0;

    private Due() {
    }

    static void is(String call, long got, long due) {
        seen++;
        if (got != due) {
            wrong++;
            if (wrong <= 40) {
                System.out.println(call + " answered " + got + ", due is " + due);
            }
        }
    }

    static void holds(String what, boolean it) {
        is(what, it ? 1 : 0, 1);
    }

    /** Types a text anew: THE TEXT is this one then. */
    static void text(SpeltRoutes r, String text) {
        r.clear();
        for (int i = 0; i < text.length(); i++) {
            is("type of " + text, r.type(text.charAt(i)), i + 1);
        }
    }

    /** Makes EXPRESSION x what a text tells: what reads answers. */
    static int reads(SpeltRoutes r, int x, String text) {
        text(r, text);
        return r.reads(x);
    }

    static SpeltRoutes with(String... expressions) {
        SpeltRoutes r = new SpeltRoutes();
        for (int x = 0; x < expressions.length; x++) {
            holds("reads " + expressions[x], reads(r, x, expressions[x]) >= 0);
        }
        return r;
    }

    static boolean wrongYet() {
        return wrong > 0;
    }

    static void end() {
        System.out.println(seen + " answers, " + wrong + " wrong");
        if (wrong > 0 || seen == 0) {
            System.exit(1);
        }
    }
}
