/** Promises 11 to 16: a run by ticks, each one gone through by hand. */
public final class RunTest {
    private static final Due due = new Due("RunTest");

    public static void main(String[] args) {
        byRank();
        byEnd();
        byTurns();
        hands();
        jobsWaitInARow();
        lateAtItsEdges();
        lending();
        lendingAlongARow();
        lendingByEnd();
        lendingThroughFire();
        waitingForSome();
        upward();
        upwardOnAScale();
        fire();
        scale();
        doneInChoosing();
        forgotten();
        ring();
        wrong();
        due.end();
    }

    /** Who was first in the ticks from 0 on; '-' is nobody. */
    private static void first(String what, OneKnife knife, String want) {
        for (int t = 0; t < want.length(); t++) {
            due.is(what + ": who " + t, knife.who(t, 0), want.charAt(t) == '-' ? -1 : want.charAt(t) - '0');
        }
    }

    private static void states(String what, OneKnife knife, int task, String want) {
        for (int t = 0; t < want.length(); t++) {
            due.is(what + ": state " + task + " " + t, knife.state(task, t), want.charAt(t) - '0');
        }
    }

    private static void told(String what, OneKnife knife, int task, int... want) {
        for (int i = 0; i < want.length; i++) {
            due.is(what + ": told " + task + " " + i, knife.told(task, i), want[i]);
        }
    }

    private static void byRank() {
        OneKnife knife = Due.with("p20,d20,o2:w2", "p20,d20,o0:w3", "p20,d20,o1:w1");
        knife.rule(3, 19);
        first("by rank", knife, "110012-------------");
        told("by rank", knife, 0, 1, 1, 0, 2, 2, 0, 0);
        told("by rank", knife, 1, 1, 1, 0, 5, 3, 0, 0);
        told("by rank", knife, 2, 1, 1, 0, 5, 1, 0, 0);
        states("by rank", knife, 1, "113310");
        states("by rank", knife, 2, "033331000");
        knife.set(0, 0, 8);
        first("like ranks", knife, "111002");
        due.is("like ranks are not lesser", knife.told(0, 6), 0);
        due.is("like ranks are not lesser", knife.told(2, 6), 0);
        knife.set(2, 0, 99);
        first("another rank", knife, "121100");
    }

    private static void byEnd() {
        OneKnife knife = Due.with("p20,d12,o0:w4", "p20,d5,o1:w2", "p20,d9,o3:w1");
        knife.rule(3, 20);
        first("by rank", knife, "0000112-");
        knife.rule(0, 1);
        first("by end, of like ones the least number", knife, "0110002-");
        told("by end", knife, 0, 1, 1, 0, 6, 4, 0, 2);
        told("by end", knife, 2, 1, 1, 0, 4, 1, 0, 0);
        knife.wipe(2);
        Due.type(knife, 2, "p20,d8,o3:w1");
        first("by end, a nearer one", knife, "0112000-");
        due.is("done", knife.done(0, 0), 7);
        due.is("done", knife.done(2, 0), 4);
    }

    private static void byTurns() {
        OneKnife knife = Due.with("p40,d40,o0:w2", "p40,d40,o0:w3", "p40,d40,o2:w2");
        knife.rule(0, 2);
        first("by turns", knife, "0120121-");
        OneKnife again = Due.with("p4,d40,o0:w1", "p40,d40,o0:w6");
        again.rule(0, 2);
        first("by turns, a task's later jobs", again, "011101110");
    }

    private static void hands() {
        OneKnife knife = Due.with("p10,d10,o0:w2", "p10,d10,o0:w3", "p10,d10,o1:w1");
        knife.rule(2, 2);
        int[][] want = {{0, 1}, {0, 1}, {1, 2}, {-1, -1}};
        for (int t = 0; t < want.length; t++) {
            due.is("two hands", knife.who(t, 0), want[t][0]);
            due.is("two hands", knife.who(t, 1), want[t][1]);
        }
        due.is("a third hand", knife.who(0, 2), -2);
        knife.rule(2, 3);
        due.is("three hands", knife.who(0, 2), -1);
        due.is("three hands", knife.who(1, 2), 2);
        states("three hands", knife, 2, "010");
    }

    private static void jobsWaitInARow() {
        OneKnife knife = Due.with("p2,d9,o1:w3");
        knife.rule(3, 10);
        first("a row of jobs", knife, "-000000000");
        told("a row of jobs", knife, 0, 5, 3, 0, 5, 9, 0, 0);
        int[] done = {4, 7, 10, -1, -1, -1};
        for (int i = 0; i < done.length; i++) {
            due.is("done " + i, knife.done(0, i), done[i]);
        }
        due.is("done far behind", knife.done(0, 2147483647), -1);
    }

    private static void lateAtItsEdges() {
        due.is("done as it is due", Due.with("p60,d3,o0:w3").late(), 0);
        due.is("done behind it", Due.with("p60,d2,o0:w3").late(), 1);
        OneKnife atEnd = Due.with("p60,d5,o0:w9");
        atEnd.rule(3, 5);
        due.is("due at the end, not done", atEnd.late(), 1);
        due.is("due at the end, not done", atEnd.told(0, 2), 1);
        due.is("due at the end, not done", atEnd.told(0, 3), -1);
        atEnd.rule(3, 4);
        due.is("due behind the end", atEnd.late(), 0);
        OneKnife last = Due.with("p60,d5,o0:w5");
        last.rule(3, 5);
        due.is("done at the end", last.done(0, 0), 5);
        due.is("done at the end", last.late(), 0);
        OneKnife row = Due.with("p2,d2,o0:w3", "p60,d4,o0:w1");
        row.rule(3, 7);
        due.is("those that wait are late too", row.told(0, 2), 3);
        due.is("of all", row.late(), 4);
    }

    private static OneKnife inversion() {
        OneKnife knife = Due.withTools(1, "p40,d40,o1:t0,w1,g0", "p40,d40,o2:w4", "p40,d40,o0:t0,w5,g0,w1");
        knife.rule(3, 30);
        return knife;
    }

    private static void lending() {
        OneKnife knife = inversion();
        first("none lent", knife, "22111122202-");
        told("none lent", knife, 0, 1, 1, 0, 9, 1, 8, 8);
        told("none lent", knife, 1, 1, 1, 0, 4, 4, 0, 0);
        told("none lent", knife, 2, 1, 1, 0, 11, 6, 0, 0);
        states("none lent", knife, 0, "0222222221000");
        states("none lent", knife, 2, "113333111310");
        knife.rule(1, 1);
        first("lent", knife, "22222011112-");
        told("lent", knife, 0, 1, 1, 0, 5, 1, 4, 4);
        told("lent", knife, 1, 1, 1, 0, 8, 4, 0, 3);
        knife.rule(0, 2);
        knife.rule(1, 0);
        // 0 never worked, so it is asked first on each tick and waits, while 2 and 1 work by turns.
        String turns = "22121212012-";
        first("by turns", knife, turns);
        knife.rule(1, 1);
        first("by turns nothing is lent", knife, turns);
    }

    private static void lendingAlongARow() {
        // 3 has thing 1, 2 has thing 0 and waits for 3, 0 waits for 2: 3 goes ahead of 1.
        OneKnife knife = Due.withTools(2, "p60,d60,o4:t0,w1", "p60,d60,o4:w3", "p60,d60,o1:t0,w1,t1,w1", "p60,d60,o0:t1,w5,g1,w1");
        knife.rule(1, 1);
        first("along a row", knife, "323333201113-");
        knife.rule(1, 0);
        first("not lent", knife, "323311133203-");
    }

    private static void lendingByEnd() {
        OneKnife knife = Due.withTools(1, "p60,d9,o1:t0,w1", "p60,d20,o1:w4", "p60,d50,o0:t0,w3,g0");
        knife.rule(0, 1);
        first("by end, none lent", knife, "21111220-");
        knife.rule(1, 1);
        first("by end, lent", knife, "22201111-");
        due.is("by end, lent", knife.done(0, 0), 4);
    }

    private static void lendingThroughFire() {
        // 0 has a fire, so it is asked ahead of 1 and waits for 3; when 1 waits for 0, 3 is lent the rank of 1 through 0.
        OneKnife knife = new OneKnife();
        knife.thing(2, 1);
        knife.thing(0, 1);
        Due.type(knife, 0, "p60,d60,o1:t0,w1,t1,w1");
        Due.type(knife, 1, "p60,d60,o2:t0,w1");
        Due.type(knife, 2, "p60,d60,o2:w3");
        Due.type(knife, 3, "p60,d60,o0:t1,w6,g1");
        knife.set(0, 0, 5);
        knife.set(3, 0, 4);
        knife.rule(1, 1);
        first("through a fire", knife, "303333301222-");
    }

    private static void waitingForSome() {
        // A scale of which one is left, but broken: 0 waits for nobody, and nothing is lent to 2, who has one.
        OneKnife knife = new OneKnife();
        knife.thing(1, 2);
        knife.broken(0, 2, 10);
        Due.type(knife, 0, "p60,d60,o2:t0,w1");
        Due.type(knife, 1, "p60,d60,o3:w2");
        Due.type(knife, 2, "p60,d60,o0:t0,w6");
        knife.rule(1, 1);
        first("broken, not taken", knife, "22211222---0-");
        // 1 waits for 0, who has the thing it wants, and upward for 3, who has one that bars it: 3 goes ahead of 2.
        OneKnife both = Due.withTools(3, "p60,d60,o1:t0,w1,t2,w1", "p60,d60,o3:t0,w1,g0,t1,w1", "p60,d60,o3:w3", "p60,d60,o0:t1,w6,g1");
        both.broken(2, 0, 20);
        both.rule(1, 2);
        first("taken and upward", both, "3033333222-");
    }

    private static void upward() {
        OneKnife knife = Due.withTools(2, "p60,d60,o3:t0,w1,t1,w1", "p60,d20,o1:t1,w2,g1", "p60,d60,o0:t0,w4,g0");
        knife.rule(1, 1);
        states("not upward", knife, 1, "0110");
        knife.rule(1, 2);
        states("upward", knife, 1, "02233311");
        first("upward", knife, "22220011-");
        due.is("upward is told as waiting", knife.told(1, 5), 2);
        knife.rule(0, 2);
        due.is("upward by turns too", knife.state(1, 1), 2);
        knife.rule(0, 1);
        due.is("upward by end too", knife.state(1, 1), 2);
        knife.rule(0, 0);
        knife.drop(0, true);
        states("upward, only by texts of those that are", knife, 1, "0110");
        knife.drop(0, false);
        knife.set(0, 0, 9);
        due.is("a like rank is not lesser", knife.state(1, 1), 2);
        knife.set(0, 0, 5);
        due.is("a lesser rank", knife.state(1, 1), 1);
    }

    private static void upwardOnAScale() {
        OneKnife knife = new OneKnife();
        knife.thing(1, 2);
        Due.type(knife, 0, "p60,d60,o1:t0,w1");
        Due.type(knife, 1, "p60,d60,o0:t0,w3");
        knife.rule(2, 2);
        states("two have it", knife, 0, "010");
        knife.rule(1, 2);
        states("it takes the other's thing itself", knife, 0, "02210");
        due.is("and waits for the other", knife.ring(0), -1);
    }

    private static void fire() {
        OneKnife knife = new OneKnife();
        knife.thing(2, 1);
        Due.type(knife, 0, "p60,d60,o1:w2");
        Due.type(knife, 1, "p60,d60,o0:t0,w3,g0,w1");
        first("who has a fire is not put aside", knife, "111001-");
        due.is("told 6", knife.told(0, 6), 2);
        knife.rule(0, 1);
        first("by end", knife, "111100-");
        knife.rule(0, 2);
        first("by turns", knife, "111010-");
        OneKnife two = new OneKnife();
        two.thing(2, 1);
        two.thing(2, 1);
        Due.type(two, 0, "p60,d60,o0:w1");
        Due.type(two, 1, "p60,d60,o0:t0,w1,w2");
        Due.type(two, 2, "p60,d60,o0:t1,w4");
        two.rule(2, 2);
        due.is("two fires", two.who(0, 1), 1);
        due.is("two fires", two.who(1, 0), 1);
        due.is("two fires", two.who(1, 1), 2);
        due.is("two fires", two.who(2, 0), 1);
    }

    private static void scale() {
        OneKnife knife = new OneKnife();
        knife.thing(1, 2);
        for (int i = 0; i < 3; i++) {
            Due.type(knife, i, "p60,d60,o0:t0,w2,g0,w1");
        }
        knife.rule(2, 3);
        states("a scale", knife, 0, "1110");
        states("a scale", knife, 1, "1110");
        states("a scale", knife, 2, "221110");
        OneKnife three = new OneKnife();
        three.thing(1, 3);
        for (int i = 0; i < 3; i++) {
            Due.type(three, i, "p60,d60,o0:t0,w2,g0,w1");
        }
        three.rule(2, 3);
        states("a scale of three", three, 2, "1110");
    }

    private static void doneInChoosing() {
        OneKnife knife = Due.withTools(1, "p4,d20,o0:w1,t0", "p60,d60,o0:w2");
        knife.broken(0, 0, 3);
        knife.rule(3, 12);
        first("done in choosing", knife, "011--0--0---");
        due.is("done at t", knife.done(0, 0), 4);
        due.is("no other one in this tick", knife.done(0, 1), 6);
        due.is("done at t", knife.done(0, 2), 9);
        states("done in choosing", knife, 0, "122201001000");
        told("done in choosing", knife, 0, 3, 3, 0, 4, 3, 3, 2);
        // What it gives back so may be taken in the same tick.
        OneKnife frees = Due.withTools(1, "p60,d60,o0:t0,w1,g0,t0", "p60,d60,o1:t0,w1");
        first("it gives back in choosing", frees, "01-");
        due.is("in the same tick", frees.done(0, 0), 1);
        due.is("in the same tick", frees.done(1, 0), 2);
        OneKnife due1 = Due.withTools(1, "p60,d1,o0:w1,t0");
        due.is("done at t, due at t", due1.late(), 0);
    }

    private static void forgotten() {
        OneKnife knife = Due.withTools(1, "p60,d60,o0:t0,w2", "p60,d60,o0:t0,w1");
        knife.rule(2, 2);
        states("forgotten", knife, 0, "110");
        states("given back by itself", knife, 1, "2210");
    }

    private static void ring() {
        OneKnife knife = Due.withTools(2, "p60,d60,o1:t0,w2,t1,w1", "p60,d60,o0:t1,w2,t0,w1", "p60,d60,o4:t0,w1");
        due.is("ring tick", knife.ring(0), 4);
        due.is("ring bits", knife.ring(1), 3);
        states("ring", knife, 0, "01122222");
        states("ring", knife, 1, "13312222");
        due.is("beside the ring", knife.state(2, 59), 2);
        due.is("late, if it was due in the run", knife.late(), 1);
        knife.rule(1, 2);
        due.is("no ring upward", knife.ring(0), -1);
        due.is("no ring upward", knife.ring(1), 0);
        due.is("no ring upward", knife.late(), 0);
        OneKnife three = Due.withTools(3, "p60,d60,o0:t0,w1,t1,w1", "p60,d60,o0:t1,w1,t2,w1", "p60,d60,o0:t2,w1,t0,w1");
        three.rule(2, 3);
        due.is("a ring of three", three.ring(0), 1);
        due.is("a ring of three", three.ring(1), 7);
    }

    private static void wrong() {
        OneKnife knife = Due.with("p5,d5,o0:w1");
        knife.rule(3, 20);
        int[] tasks = {-2147483648, -1, 8, 2147483647};
        for (int task : tasks) {
            due.is("state", knife.state(task, 0), -2);
            due.is("done", knife.done(task, 0), -2);
            due.is("told", knife.told(task, 0), -2);
        }
        int[] ticks = {-2147483648, -1, 20, 120, 2147483647};
        for (int tick : ticks) {
            due.is("who", knife.who(tick, 0), -2);
            due.is("state", knife.state(0, tick), -2);
        }
        due.is("who", knife.who(0, -1), -2);
        due.is("who", knife.who(0, 1), -2);
        due.is("who", knife.who(19, 0), -1);
        due.is("done", knife.done(0, -1), -2);
        due.is("told", knife.told(0, -1), -2);
        due.is("told", knife.told(0, 7), -2);
        due.is("ring", knife.ring(-1), -2);
        due.is("ring", knife.ring(2), -2);
        int[] none = {0, 0, 0, -1, 0, 0, 0};
        for (int what = 0; what < 7; what++) {
            due.is("told of a task without a text", knife.told(5, what), none[what]);
        }
    }
}
