import java.util.function.Supplier;
import java.util.function.ToIntFunction;

/**
 * Each refused call, asked of an object that has a twin made by the same calls: behind it both answer the same, whatever is
 * asked, and go on alike. No object is asked more than 512 calls.
 */
public final class RefusalsEdgesTest {
    private static final Edges edges = new Edges("RefusalsEdgesTest");
    private static final String W1 = "p60,d60,o0:w1";
    private static final int LEAST = -2147483648;
    private static final int MOST = 2147483647;
    private static final int[] NO_TASKS = {LEAST, -1, 8, MOST};
    private static final int[] NO_SHEETS = {LEAST, -1, 4, MOST};
    private static final int[] NO_TYPES = {LEAST, -1, 3, MOST};

    public static void main(String[] args) {
        edges.says("They change nothing (FINDINGS but count() 8).");
        things();
        texts();
        tasks();
        rules();
        runs();
        bounds();
        ranks();
        logs();
        newSheets();
        items();
        copies();
        asks();
        edges.says("Refusals, the first that fits, in the order told at each act: BAD -2 (a number not as told, no such "
            + "thing), NULL, NOT -3, FULL -4, other FINDINGS.");
        inTheirOrder();
        edges.end();
    }

    /** Something of each: things, texts with and without a fault, a dropped task, sheets of each type, a lost one, a finding. */
    private static OneKnife rich() {
        OneKnife knife = Due.withTools(1, "p20,d8,o1:t0,w2,g0", "p20,d13,o2:w4", "p20,d20,o0:t0,w4", "p9,d9:", W1);
        knife.thing(1, 2);
        knife.thing(2, 1);
        knife.broken(1, 5, 7);
        knife.set(1, 0, 50);
        knife.set(2, 1, 7);
        knife.drop(4, true);
        Due.by(knife, 1, 1, 2);
        knife.rule(3, 40);
        knife.sheet(0, 0, 3);
        knife.sheet(1, 1, 2);
        knife.sheet(2, 2, 0);
        knife.put(0, 0, 1, 2);
        knife.put(1, 1, 1, 1);
        knife.put(0, 1, 0, 0);
        return knife;
    }

    /** As many things, bytes and tasks as may be, and more than may be put in order. */
    private static OneKnife full() {
        OneKnife knife = Due.withTools(6, "p9,d99,o0:w1,w1,w1,w1,w1,w1,w1,w1,w1,w1,w1,w1,w1,w1,w1,w1,w1", W1, W1, W1, W1, W1);
        knife.rule(3, 9);
        return knife;
    }

    /** Bounds can be reckoned. */
    private static OneKnife upward() {
        OneKnife knife = rich();
        return Due.by(knife, 0, 2, 1);
    }

    /** Nothing mends it. */
    private static OneKnife late() {
        OneKnife knife = rich();
        Due.type(knife, 7, "p60,d1,o0:w2");
        return knife;
    }

    private static void refused(String call, Supplier<OneKnife> make, ToIntFunction<OneKnife> ask, int answer, int finding) {
        OneKnife asked = make.get();
        OneKnife twin = make.get();
        edges.is(call, ask.applyAsInt(asked), answer);
        edges.is(call + ": finding", asked.count(8), finding == 0 ? twin.count(8) : finding);
        asked.sheet(0, 0, -1);
        twin.sheet(0, 0, -1);
        edges.is(call + ": behind it", everything(asked), everything(twin));
    }

    private static void bad(String call, ToIntFunction<OneKnife> ask) {
        refused(call, RefusalsEdgesTest::rich, ask, -2, 0);
    }

    private static void not(String call, Supplier<OneKnife> make, ToIntFunction<OneKnife> ask) {
        refused(call, make, ask, -3, 0);
    }

    private static void finds(String call, ToIntFunction<OneKnife> ask, int finding) {
        refused(call, RefusalsEdgesTest::rich, ask, -10 - finding, finding);
    }

    private static String everything(OneKnife knife) {
        StringBuilder all = new StringBuilder().append(knife.digest());
        for (int what = 0; what <= 8; what++) {
            all.append(' ').append(knife.count(what));
        }
        for (int i = 0; i < 8; i++) {
            for (int what = 0; what <= 8; what++) {
                all.append(' ').append(knife.about(i, what));
            }
        }
        all.append(' ').append(Due.chosen(knife, 0, 9)).append(' ').append(knife.who(1, knife.count(6) - 1));
        for (int i = 0; i < 5; i++) {
            all.append(' ').append(Due.states(knife, i, 6)).append(' ').append(knife.done(i, 0));
        }
        all.append(' ').append(knife.late()).append(' ').append(knife.ring(0)).append(' ').append(knife.ring(1));
        all.append(' ').append(knife.bound(0)).append(' ').append(knife.held(0));
        all.append(' ').append(knife.best(0)).append(' ').append(knife.best(1));
        all.append(' ').append(knife.shed(0)).append(' ').append(knife.shed(1));
        all.append(' ').append(knife.slack(0, 1)).append(' ').append(knife.whatever(0, 1, 0)).append(' ').append(knife.whatever(0, 1, 1));
        for (int what = 0; what <= 4; what++) {
            all.append(' ').append(knife.mended(what));
        }
        for (int s = 0; s < 4; s++) {
            all.append(' ').append(knife.fits(s));
            for (int i = 0; i < 4; i++) {
                all.append(' ').append(knife.get(s, s % 3, i));
            }
        }
        return all.append(' ').append(goesOn(knife)).toString();
    }

    /** What it answers when it is changed then. */
    private static String goesOn(OneKnife knife) {
        StringBuilder all = new StringBuilder();
        for (int s = 0; s < 4; s++) {
            all.append(' ').append(knife.write(s)).append(' ').append(knife.lose(s));
        }
        all.append(' ').append(knife.thing(1, 3));
        for (int i = 0; i < 8; i++) {
            all.append(' ').append(knife.type(i, ',')).append(' ').append(knife.fault(i)).append(' ').append(knife.wipe(i));
            all.append(' ').append(knife.drop(i, true)).append(' ').append(knife.set(i, 0, 5)).append(' ').append(knife.set(i, 1, 5));
        }
        for (int what = 0; what < 4; what++) {
            all.append(' ').append(knife.rule(what, 1));
        }
        return all.toString();
    }

    private static void things() {
        int[][] kinds = {{-1, 1}, {3, 1}, {LEAST, 1}, {MOST, 1}, {0, 0}, {0, 2}, {1, 1}, {1, 4}, {2, 0}, {2, 2}, {0, LEAST}, {1, MOST}};
        for (int[] k : kinds) {
            bad("thing " + k[0] + " " + k[1], x -> x.thing(k[0], k[1]));
        }
        refused("a seventh thing", RefusalsEdgesTest::full, x -> x.thing(0, 1), -4, 0);
        int[][] breaks = {{-1, 0, 0}, {3, 0, 0}, {6, 0, 0}, {LEAST, 0, 0}, {MOST, 0, 0},
            {0, -1, 0}, {0, 120, 0}, {0, 0, -1}, {0, 0, 120}, {0, LEAST, MOST}};
        for (int[] b : breaks) {
            bad("broken " + b[0] + " " + b[1] + " " + b[2], x -> x.broken(b[0], b[1], b[2]));
        }
        refused("thing 6 of six", RefusalsEdgesTest::full, x -> x.broken(6, 0, 0), -2, 0);
    }

    private static void texts() {
        for (int task : NO_TASKS) {
            bad("type " + task, x -> x.type(task, 'p'));
            bad("wipe " + task, x -> x.wipe(task));
            bad("fault " + task, x -> x.fault(task));
        }
        for (int b : new int[] {LEAST, -1, 256, MOST}) {
            bad("byte " + b, x -> x.type(3, b));
            bad("byte " + b + " in an empty text", x -> x.type(7, b));
        }
        edges.is("the text is full", full().count(2), 60 + 5 * W1.length());
        refused("a 61st byte", RefusalsEdgesTest::full, x -> x.type(0, ','), -4, 0);
    }

    private static void tasks() {
        for (int task : NO_TASKS) {
            bad("about " + task, x -> x.about(task, 6));
            bad("set " + task, x -> x.set(task, 0, 1));
            bad("drop " + task, x -> x.drop(task, true));
            bad("drop not " + task, x -> x.drop(task, false));
        }
        for (int what : new int[] {LEAST, -1, 9, MOST}) {
            bad("about 0 " + what, x -> x.about(0, what));
        }
        for (int what = 0; what <= 5; what++) {
            int about = what;
            not("about a fault " + what, RefusalsEdgesTest::rich, x -> x.about(3, about));
            not("about no text " + what, RefusalsEdgesTest::rich, x -> x.about(7, about));
        }
        int[][] sets = {{LEAST, 5}, {-1, 5}, {2, 5}, {MOST, 5}, {0, -1}, {0, 100}, {1, -1}, {1, 100}, {0, LEAST}, {1, MOST}};
        for (int[] s : sets) {
            bad("set 0 " + s[0] + " " + s[1], x -> x.set(0, s[0], s[1]));
        }
    }

    private static void rules() {
        int[][] rules = {{LEAST, 1}, {-1, 1}, {4, 1}, {MOST, 1}, {0, -1}, {0, 3}, {1, -1}, {1, 3}, {2, 0}, {2, 4}, {3, 0}, {3, 121},
            {0, LEAST}, {1, MOST}, {2, LEAST}, {2, MOST}, {3, LEAST}, {3, MOST}};
        for (int[] r : rules) {
            bad("rule " + r[0] + " " + r[1], x -> x.rule(r[0], r[1]));
        }
    }

    private static void runs() {
        for (int task : NO_TASKS) {
            bad("state " + task, x -> x.state(task, 0));
            bad("done " + task, x -> x.done(task, 0));
            bad("told " + task, x -> x.told(task, 0));
        }
        for (int tick : new int[] {LEAST, -1, 40, MOST}) {
            bad("who " + tick, x -> x.who(tick, 0));
            bad("state 0 " + tick, x -> x.state(0, tick));
        }
        for (int n : new int[] {LEAST, -1, 2, MOST}) {
            bad("who 0 " + n, x -> x.who(0, n));
        }
        for (int i : new int[] {LEAST, -1}) {
            bad("done 0 " + i, x -> x.done(0, i));
        }
        for (int what : new int[] {LEAST, -1, 7, MOST}) {
            bad("told 0 " + what, x -> x.told(0, what));
        }
        for (int what : new int[] {LEAST, -1, 2, MOST}) {
            bad("ring " + what, x -> x.ring(what));
        }
    }

    private static void bounds() {
        edges.is("it can be reckoned", upward().bound(0), 10);
        for (int task : NO_TASKS) {
            refused("bound " + task, RefusalsEdgesTest::upward, x -> x.bound(task), -2, 0);
            refused("held " + task, RefusalsEdgesTest::upward, x -> x.held(task), -2, 0);
        }
        not("bound by another rule", RefusalsEdgesTest::rich, x -> x.bound(0));
        not("held by another rule", RefusalsEdgesTest::rich, x -> x.held(0));
        for (int task : new int[] {3, 4, 7}) {
            not("bound " + task, RefusalsEdgesTest::upward, x -> x.bound(task));
            not("held " + task, RefusalsEdgesTest::upward, x -> x.held(task));
        }
    }

    private static void ranks() {
        for (int i : new int[] {LEAST, -1, 3, MOST}) {
            bad("best " + i, x -> x.best(i));
        }
        refused("best of six", RefusalsEdgesTest::full, x -> x.best(0), -4, 0);
        for (int task : NO_TASKS) {
            bad("slack " + task, x -> x.slack(task, 0));
            bad("whatever " + task, x -> x.whatever(task, 1, 0));
        }
        for (int step : new int[] {LEAST, -1, 0, 2, 3, 20, MOST}) {
            bad("slack 0 " + step, x -> x.slack(0, step));
        }
        bad("slack of a fault", x -> x.slack(3, 0));
        bad("slack of no text", x -> x.slack(7, 0));
        not("slack of a dropped one", RefusalsEdgesTest::rich, x -> x.slack(4, 0));
        for (int what : new int[] {LEAST, -1, 2, MOST}) {
            bad("shed " + what, x -> x.shed(what));
            bad("whatever 0 1 " + what, x -> x.whatever(0, 1, what));
        }
        for (int j : new int[] {LEAST, -1, 0, 4, MOST}) {
            bad("whatever 0 " + j, x -> x.whatever(0, j, 0));
        }
        refused("whatever of six", RefusalsEdgesTest::full, x -> x.whatever(0, 1, 0), -4, 0);
    }

    private static void logs() {
        for (int s : NO_SHEETS) {
            bad("fits " + s, x -> x.fits(s));
            bad("write " + s, x -> x.write(s));
        }
        finds("fits a lost one", x -> x.fits(3), 1);
        finds("write a lost one", x -> x.write(3), 1);
        for (int what : new int[] {LEAST, -1, 5, MOST}) {
            bad("mended " + what, x -> x.mended(what));
        }
        edges.is("nothing mends it", late().mended(0), -1);
        for (int what = 1; what <= 4; what++) {
            int mended = what;
            not("mended " + what, RefusalsEdgesTest::late, x -> x.mended(mended));
        }
        for (int what : new int[] {LEAST, -1, 9, MOST}) {
            bad("count " + what, x -> x.count(what));
        }
    }

    private static void newSheets() {
        for (int s : NO_SHEETS) {
            bad("sheet " + s, x -> x.sheet(s, 0, 1));
            bad("lose " + s, x -> x.lose(s));
        }
        for (int type : NO_TYPES) {
            bad("sheet of type " + type, x -> x.sheet(0, type, 1));
        }
        for (int s = 0; s < 4; s += 3) {
            int sheet = s;
            bad("61 items, sheet " + s, x -> x.sheet(sheet, 0, 61));
            bad("the most items, sheet " + s, x -> x.sheet(sheet, 0, MOST));
            finds("-1 items, sheet " + s, x -> x.sheet(sheet, 0, -1), 5);
            finds("the least items, sheet " + s, x -> x.sheet(sheet, 2, LEAST), 5);
        }
        finds("lose a lost one", x -> x.lose(3), 1);
    }

    private static void items() {
        for (int s : NO_SHEETS) {
            bad("put " + s, x -> x.put(s, 0, 0, 9));
            refused("get " + s, RefusalsEdgesTest::rich, x -> x.get(s, 0, 0), LEAST, 0);
        }
        for (int type : NO_TYPES) {
            bad("put as type " + type, x -> x.put(0, type, 0, 9));
            refused("get as type " + type, RefusalsEdgesTest::rich, x -> x.get(0, type, 0), LEAST, 0);
        }
        // Sheet, type, item, finding.
        int[][] no = {{3, 0, 0, 1}, {3, 2, -1, 1}, {0, 1, 0, 3}, {0, 2, 0, 3}, {1, 0, 0, 3}, {2, 1, 0, 3}, {0, 2, 3, 3},
            {0, 0, -1, 2}, {0, 0, 3, 2}, {0, 0, LEAST, 2}, {0, 0, MOST, 2}, {1, 1, 2, 2}, {2, 2, 0, 2}};
        for (int[] n : no) {
            finds("put " + n[0] + " " + n[1] + " " + n[2], x -> x.put(n[0], n[1], n[2], 9), n[3]);
            refused("get " + n[0] + " " + n[1] + " " + n[2], RefusalsEdgesTest::rich, x -> x.get(n[0], n[1], n[2]), LEAST, n[3]);
        }
    }

    private static void copies() {
        for (int s : NO_SHEETS) {
            bad("copy " + s, x -> x.copy(s, 0, 0, 0, 1));
            bad("copy to " + s, x -> x.copy(0, 0, s, 0, 1));
        }
        // From a sheet and item to a sheet and item, how many, finding.
        int[][] no = {{3, 0, 0, 0, 1, 1}, {0, 0, 3, 0, 1, 1}, {3, 0, 3, 0, 0, 1}, {0, 0, 1, 0, 1, 4}, {1, 0, 2, 0, 0, 4},
            {0, -1, 0, 0, 1, 2}, {0, 0, 0, -1, 1, 2}, {0, 0, 0, 0, -1, 2}, {0, 0, 0, 0, 4, 2}, {0, 1, 0, 0, 3, 2}, {0, 0, 0, 1, 3, 2},
            {0, 4, 0, 0, 0, 2}, {0, 0, 0, 4, 0, 2}, {2, 0, 2, 0, 1, 2},
            {0, MOST, 0, 0, MOST, 2}, {0, 0, 0, MOST, 1, 2}, {0, 0, 0, 0, LEAST, 2}};
        for (int[] n : no) {
            finds("copy " + n[0] + " " + n[1] + " " + n[2] + " " + n[3] + " " + n[4], x -> x.copy(n[0], n[1], n[2], n[3], n[4]), n[5]);
        }
    }

    /** What is asked and not refused changes nothing, either. */
    private static void asks() {
        refused("fault", RefusalsEdgesTest::rich, x -> x.fault(3), 5, 0);
        refused("late", RefusalsEdgesTest::rich, x -> x.late(), 0, 0);
        refused("best", RefusalsEdgesTest::rich, x -> x.best(0), 0, 0);
        refused("slack", RefusalsEdgesTest::rich, x -> x.slack(0, 1), 3, 0);
        refused("shed", RefusalsEdgesTest::late, x -> x.shed(0), 128, 0);
        refused("whatever", RefusalsEdgesTest::rich, x -> x.whatever(0, 3, 1), 0, 0);
        refused("fits", RefusalsEdgesTest::rich, x -> x.fits(2), 511, 0);
        refused("mended", RefusalsEdgesTest::late, x -> x.mended(0), -1, 0);
        refused("drop what is dropped", RefusalsEdgesTest::rich, x -> x.drop(4, true), 0, 0);
    }

    private static void answers(String call, OneKnife knife, ToIntFunction<OneKnife> ask, int want) {
        edges.is(call, ask.applyAsInt(knife), want);
    }

    private static void inTheirOrder() {
        answers("thing: bad ahead of full", full(), x -> x.thing(0, 2), -2);
        answers("type: bad ahead of full", full(), x -> x.type(0, 256), -2);
        answers("about: bad ahead of not", rich(), x -> x.about(3, 9), -2);
        answers("bound: bad ahead of not", rich(), x -> x.bound(8), -2);
        answers("held: bad ahead of not", rich(), x -> x.held(-1), -2);
        answers("best: bad ahead of full", full(), x -> x.best(6), -2);
        answers("slack: bad ahead of not", rich(), x -> x.slack(4, 1), -2);
        answers("whatever: bad ahead of full", full(), x -> x.whatever(0, 4, 0), -2);
        answers("mended: bad ahead of not", late(), x -> x.mended(5), -2);
        answers("sheet: bad ahead of size", rich(), x -> x.sheet(0, 3, -1), -2);
        answers("put: bad ahead of null", rich(), x -> x.put(3, 3, 0, 0), -2);
        answers("put: null ahead of index", rich(), x -> x.put(3, 0, -1, 0), -11);
        answers("put: cast ahead of index", rich(), x -> x.put(0, 1, -1, 0), -13);
        answers("copy: bad ahead of null", rich(), x -> x.copy(3, 0, 4, 0, 1), -2);
        answers("copy: null ahead of store and index", rich(), x -> x.copy(1, -1, 3, 0, 1), -11);
        answers("copy: store ahead of index", rich(), x -> x.copy(0, -1, 1, 0, 1), -14);
    }
}
