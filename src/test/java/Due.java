/** What the tests share: answers that are due, texts typed byte by byte, runs as signs tick by tick. */
final class Due {
    private final String name;
    private int asked;
    private int wrong;

    Due(String name) {
        this.name = name;
    }

    void is(String call, long got, long want) {
        tell(call, got == want, got + ", due is " + want);
    }

    void is(String call, String got, String want) {
        tell(call, got.equals(want), "'" + got + "', due is '" + want + "'");
    }

    private void tell(String call, boolean good, String answers) {
        asked++;
        if (!good) {
            wrong++;
            System.out.println(name + ": " + call + " answered " + answers);
        }
    }

    /** Exits with 1, if an answer was not the one that is due. */
    void end() {
        System.out.println(name + ": " + asked + " answers, " + wrong + " not as due");
        if (wrong != 0 || asked == 0) {
            System.exit(1);
        }
    }

    static OneKnife type(OneKnife knife, int task, String text) {
        for (int i = 0; i < text.length(); i++) {
            knife.type(task, text.charAt(i));
        }
        return knife;
    }

    /** A new object with texts for the tasks 0, 1, .. */
    static OneKnife with(String... texts) {
        return withTools(0, texts);
    }

    /** Likewise, with so many tools ahead of it. */
    static OneKnife withTools(int tools, String... texts) {
        OneKnife knife = new OneKnife();
        for (int i = 0; i < tools; i++) {
            knife.thing(0, 1);
        }
        return typeAll(knife, texts);
    }

    /** Likewise, with one thing ahead of it, of a kind that so many may have. */
    static OneKnife withThing(int kind, int many, String... texts) {
        OneKnife knife = new OneKnife();
        knife.thing(kind, many);
        return typeAll(knife, texts);
    }

    static OneKnife typeAll(OneKnife knife, String... texts) {
        for (int i = 0; i < texts.length; i++) {
            type(knife, i, texts[i]);
        }
        return knife;
    }

    /** Sets RULE, LENDING and HANDS. */
    static OneKnife by(OneKnife knife, int rule, int lending, int hands) {
        knife.rule(0, rule);
        knife.rule(1, lending);
        knife.rule(2, hands);
        return knife;
    }

    /** Who was chosen n-th in the ticks from 0 on, a sign each; '-' is nobody. */
    static String chosen(OneKnife knife, int n, int ticks) {
        StringBuilder signs = new StringBuilder();
        for (int t = 0; t < ticks; t++) {
            int task = knife.who(t, n);
            signs.append(task == OneKnife.NONE ? "-" : String.valueOf(task));
        }
        return signs.toString();
    }

    static String states(OneKnife knife, int task, int ticks) {
        StringBuilder signs = new StringBuilder();
        for (int t = 0; t < ticks; t++) {
            signs.append(knife.state(task, t));
        }
        return signs.toString();
    }
}
