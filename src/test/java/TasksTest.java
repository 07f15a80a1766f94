/** Promises 1 to 10: a new object, things, texts and their faults, ranks, what is dropped, rules. */
public final class TasksTest {
    private static final Due due = new Due("TasksTest");
    private static final int[] NO_TASKS = {-2147483648, -1, 8, 2147483647};

    public static void main(String[] args) {
        newObject();
        things();
        broken();
        types();
        wipes();
        faults();
        faultsGoByThings();
        about();
        sets();
        drops();
        rules();
        due.end();
    }

    private static void newObject() {
        OneKnife knife = new OneKnife();
        int[] counts = {0, 0, 0, 0, 0, 0, 1, 60, 0};
        for (int what = 0; what < counts.length; what++) {
            due.is("new: count " + what, knife.count(what), counts[what]);
        }
        for (int i = 0; i < 8; i++) {
            due.is("new: fault", knife.fault(i), 0);
            due.is("new: rank", knife.about(i, 6), 10 - i);
            due.is("new: worth", knife.about(i, 7), 1);
            due.is("new: is", knife.about(i, 8), 0);
        }
        due.is("new: late", knife.late(), 0);
        due.is("new: ring", knife.ring(0), -1);
        for (int s = 0; s < 4; s++) {
            due.is("new: lost", knife.lose(s), -11);
        }
    }

    private static void things() {
        OneKnife knife = new OneKnife();
        int[][] bad = {{-1, 1}, {3, 1}, {0, 0}, {0, 2}, {0, -1}, {1, 1}, {1, 4}, {1, 0}, {2, 0}, {2, 2}, {2147483647, 1}};
        for (int[] b : bad) {
            due.is("thing " + b[0] + " " + b[1], knife.thing(b[0], b[1]), -2);
        }
        int[][] good = {{0, 1}, {1, 2}, {1, 3}, {2, 1}, {2, 1}, {0, 1}};
        for (int i = 0; i < good.length; i++) {
            due.is("thing", knife.thing(good[i][0], good[i][1]), i);
            due.is("count 0", knife.count(0), i + 1);
        }
        due.is("a seventh", knife.thing(0, 1), -4);
        due.is("a seventh, badly told", knife.thing(0, 2), -2);
        due.is("count 0", knife.count(0), 6);
    }

    private static void broken() {
        OneKnife knife = new OneKnife();
        due.is("no such thing", knife.broken(0, 0, 5), -2);
        knife.thing(0, 1);
        int[][] bad = {{-1, 0, 0}, {1, 0, 0}, {0, -1, 0}, {0, 120, 0}, {0, 0, -1}, {0, 0, 120}};
        for (int[] b : bad) {
            due.is("broken", knife.broken(b[0], b[1], b[2]), -2);
        }
        Due.type(knife, 0, "p60,d60,o0:t0,w1");
        due.is("whole at first", knife.done(0, 0), 1);
        due.is("broken", knife.broken(0, 0, 2), 1);
        due.is("broken: waits", knife.state(0, 2), 2);
        due.is("whole again", knife.state(0, 3), 1);
        due.is("whole again", knife.done(0, 0), 4);
        due.is("only one break", knife.broken(0, 2, 2), 1);
        due.is("only one break", knife.done(0, 0), 1);
        due.is("from above till", knife.broken(0, 1, 0), 1);
        due.is("never", knife.done(0, 0), 1);
        due.is("the whole run", knife.broken(0, 0, 119), 1);
        due.is("the whole run", knife.told(0, 5), 60);
        due.is("a broken thing has no one to wait for", knife.ring(0), -1);
        OneKnife keeps = Due.withTools(1, "p60,d60,o0:t0,w3,g0,t0,w1");
        keeps.broken(0, 1, 2);
        due.is("who has it keeps it", keeps.done(0, 0), 4);
        keeps.broken(0, 1, 3);
        due.is("and cannot take it again", keeps.done(0, 0), 5);
    }

    private static void types() {
        OneKnife knife = new OneKnife();
        for (int task : NO_TASKS) {
            due.is("type", knife.type(task, 'p'), -2);
        }
        due.is("type -1", knife.type(0, -1), -2);
        due.is("type 256", knife.type(0, 256), -2);
        due.is("type 0", knife.type(0, 0), 1);
        due.is("type 255", knife.type(0, 255), 2);
        for (int n = 3; n <= 60; n++) {
            due.is("type", knife.type(0, '1'), n);
        }
        due.is("type: full", knife.type(0, '1'), -4);
        due.is("type: bad ahead of full", knife.type(0, 256), -2);
        due.is("type: another text", knife.type(7, '1'), 1);
        due.is("count 2", knife.count(2), 61);
    }

    private static void wipes() {
        OneKnife knife = Due.with("p5,d5,o0:w1");
        for (int task : NO_TASKS) {
            due.is("wipe", knife.wipe(task), -2);
        }
        due.is("late", knife.told(0, 0), 12);
        due.is("wipe", knife.wipe(0), 11);
        due.is("wiped", knife.fault(0), 0);
        due.is("wiped", knife.told(0, 0), 0);
        due.is("wiped", knife.count(2), 0);
        due.is("wipe again", knife.wipe(0), 0);
    }

    private static void faultOf(int tools, String text, int want) {
        due.is("fault of '" + text + "'", Due.withTools(tools, text).fault(0), want);
    }

    private static void faults() {
        OneKnife knife = new OneKnife();
        for (int task : NO_TASKS) {
            due.is("fault", knife.fault(task), -2);
        }
        String[] heads = {"", "q5", " p5", "P5"};
        for (String head : heads) {
            faultOf(0, head, 0);
        }
        String[] ones = {"p", "p 5", "p61,d1,o0:w1", "p0,d1,o0:w1", "p00,d1,o0:w1", "p0", "p99", "p,d1"};
        for (String one : ones) {
            faultOf(0, one, 1);
        }
        faultOf(0, "p5", 2);
        faultOf(0, "p5;d1", 2);
        faultOf(0, "p5d1", 2);
        faultOf(0, "p100,d1,o0:w1", 3);
        faultOf(0, "p5,e1", 3);
        faultOf(0, "p5,o1,d1:w1", 3);
        faultOf(0, "p5,", 3);
        faultOf(0, "p5,d", 4);
        faultOf(0, "p5,d0,o0:w1", 4);
        faultOf(0, "p5,d00,o0:w1", 4);
        faultOf(0, "p5,d100,o0:w1", 6);
        faultOf(0, "p5,d1,x", 6);
        faultOf(0, "p5,d1,o", 7);
        faultOf(0, "p5,d1,o-1", 7);
        faultOf(0, "p5,d1,o0", 8);
        faultOf(0, "p5,d1,o0;", 8);
        faultOf(0, "p5,d1,o100:", 9);
        faultOf(0, "p5,d1,o0:", 9);
        faultOf(0, "p5,d1,o0:x1", 9);
        faultOf(0, "p5,d1,o0:,w1", 9);
        faultOf(0, "p5,d1,o0:w", 10);
        faultOf(0, "p5,d1,o0:w0", 10);
        faultOf(0, "p5,d1,o0:w,", 10);
        faultOf(0, "p5,d1,o0:w10", 11);
        faultOf(0, "p5,d1,o0:w1 ", 11);
        faultOf(0, "p5,d1,o0:w1;w1", 11);
        faultOf(0, "p5,d1,o0:w1,", 12);
        faultOf(0, "p5,d1,o0:w1,w", 13);
        faultOf(0, "p05,d01,o00:w9", -1);
        faultOf(0, "p60,d99,o99:w1", -1);
        faultOf(0, "p1,d1,o0:w1", -1);
        faultOf(2, "p5,d1,o0:t2,w1", 10);
        faultOf(2, "p5,d1,o0:t6,w1", 10);
        faultOf(2, "p5,d1,o0:t9,w1", 10);
        faultOf(2, "p5,d1,o0:g2,w1", 10);
        faultOf(2, "p5,d1,o0:g0,w1", 10);
        faultOf(2, "p5,d1,o0:t,w1", 10);
        faultOf(2, "p5,d1,o0:t0,t0,w1", 13);
        faultOf(2, "p5,d1,o0:t0,g1,w1", 13);
        faultOf(2, "p5,d1,o0:t0,g0,g0,w1", 16);
        faultOf(2, "p5,d1,o0:t0,g0,t0,w1", -1);
        faultOf(2, "p5,d1,o0:t0,t1", 14);
        faultOf(2, "p5,d1,o0:t0,g0", 14);
        faultOf(2, "p5,d1,o0:t0,t1,g", 16);
        faultOf(6, "p5,d1,o0:t5,w1", -1);
        StringBuilder longest = new StringBuilder("p5,d1,o0:w1");
        for (int n = 0; n < 16; n++) {
            longest.append(",w9");
        }
        faultOf(0, longest.toString(), -1);
        due.is("the longest", Due.with(longest.toString()).about(0, 3), 145);
        due.is("the longest", Due.with(longest.toString()).about(0, 4), 17);
        faultOf(0, longest + ",", 60);
    }

    private static void faultsGoByThings() {
        OneKnife knife = Due.with("p5,d1,o0:t1,w1");
        due.is("no thing", knife.fault(0), 10);
        knife.thing(0, 1);
        due.is("another thing", knife.fault(0), 10);
        knife.thing(0, 1);
        due.is("the thing", knife.fault(0), -1);
        due.is("the thing", knife.count(1), 1);
    }

    private static void about() {
        OneKnife knife = Due.withTools(2, "p20,d15,o3:t0,w2,t1,w3,g0,w1", "p20,d15,o3:t0");
        int[] want = {20, 15, 3, 6, 6, 2, 10, 1, 1};
        for (int what = 0; what < 9; what++) {
            due.is("about " + what, knife.about(0, what), want[what]);
        }
        int[] faulty = {-3, -3, -3, -3, -3, -3, 9, 1, 0};
        for (int what = 0; what < 9; what++) {
            due.is("about, a fault " + what, knife.about(1, what), faulty[what]);
        }
        knife.drop(0, true);
        want[8] = 0;
        for (int what = 0; what < 9; what++) {
            due.is("about, dropped " + what, knife.about(0, what), want[what]);
        }
        for (int task : NO_TASKS) {
            due.is("about", knife.about(task, 6), -2);
        }
        due.is("about -1", knife.about(0, -1), -2);
        due.is("about 9", knife.about(0, 9), -2);
        due.is("about 9 with a fault", knife.about(1, 9), -2);
    }

    private static void sets() {
        OneKnife knife = new OneKnife();
        for (int task : NO_TASKS) {
            due.is("set", knife.set(task, 0, 1), -2);
        }
        int[][] bad = {{-1, 1}, {2, 1}, {0, -1}, {0, 100}, {1, -1}, {1, 100}};
        for (int[] b : bad) {
            due.is("set", knife.set(3, b[0], b[1]), -2);
        }
        due.is("set rank", knife.set(3, 0, 99), 7);
        due.is("set rank", knife.set(3, 0, 0), 99);
        due.is("set worth", knife.set(3, 1, 99), 1);
        due.is("set worth", knife.set(3, 1, 0), 99);
        due.is("rank", knife.about(3, 6), 0);
        due.is("worth", knife.about(3, 7), 0);
        due.is("another's rank", knife.about(2, 6), 8);
    }

    private static void drops() {
        OneKnife knife = Due.with("p5,d5,o0:w1", "p5,d5,o0:w1");
        for (int task : NO_TASKS) {
            due.is("drop", knife.drop(task, true), -2);
        }
        due.is("not dropped", knife.drop(0, false), 0);
        due.is("drop", knife.drop(0, true), 1);
        due.is("drop again", knife.drop(0, true), 0);
        due.is("count 1", knife.count(1), 2);
        due.is("count 3", knife.count(3), 1);
        due.is("who", knife.who(0, 0), 1);
        due.is("fault", knife.fault(0), -1);
        due.is("without a text", knife.drop(7, true), 1);
        due.is("count 3", knife.count(3), 129);
        due.is("back", knife.drop(0, false), 1);
        due.is("who", knife.who(0, 0), 0);
        int[] none = {0, 0, 0, -1, 0, 0, 0};
        knife.drop(0, true);
        for (int what = 0; what < 7; what++) {
            due.is("told of a dropped one", knife.told(0, what), none[what]);
        }
        due.is("state of a dropped one", knife.state(0, 0), 0);
        due.is("done of a dropped one", knife.done(0, 0), -1);
    }

    private static void rules() {
        OneKnife knife = new OneKnife();
        int[][] bad = {{-1, 0}, {4, 1}, {0, -1}, {0, 3}, {1, -1}, {1, 3}, {2, 0}, {2, 4}, {3, 0}, {3, 121}};
        for (int[] b : bad) {
            due.is("rule " + b[0] + " " + b[1], knife.rule(b[0], b[1]), -2);
        }
        int[][] good = {{0, 2, 0}, {0, 1, 2}, {0, 0, 1}, {1, 1, 0}, {1, 2, 1}, {2, 3, 1}, {2, 1, 3}, {3, 120, 60}, {3, 1, 120}, {3, 1, 1}};
        for (int[] g : good) {
            due.is("rule " + g[0] + " " + g[1], knife.rule(g[0], g[1]), g[2]);
            due.is("count", knife.count(4 + g[0]), g[1]);
        }
    }
}
