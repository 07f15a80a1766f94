/** What the tests share: answers that are due, texts typed byte by byte. */
final class Due {
    private final String name;
    private int asked;
    private int wrong;

    Due(String name) {
        this.name = name;
    }

    void is(String call, long got, long want) {
        asked++;
        if (got != want) {
            wrong++;
            System.out.println(name + ": " + call + " answered " + got + ", due is " + want);
        }
    }

    /** Exits with 1, if an answer was not the one that is due. */
    void end() {
        System.out.println(name + ": " + asked + " answers, " + wrong + " not as due");
        if (wrong != 0 || asked == 0) {
            System.exit(1);
        }
    }

    static OneKnife type(OneKnife knife, int task, String text) {
        for (int i = 0; i < text.length(); i++) {
            knife.type(task, text.charAt(i));
        }
        return knife;
    }

    /** A new object with texts for the tasks 0, 1, .. */
    static OneKnife with(String... texts) {
        OneKnife knife = new OneKnife();
        for (int i = 0; i < texts.length; i++) {
            type(knife, i, texts[i]);
        }
        return knife;
    }

    /** Likewise, with so many tools ahead of it. */
    static OneKnife withTools(int tools, String... texts) {
        OneKnife knife = new OneKnife();
        for (int i = 0; i < tools; i++) {
            knife.thing(0, 1);
        }
        for (int i = 0; i < texts.length; i++) {
            type(knife, i, texts[i]);
        }
        return knife;
    }
}
