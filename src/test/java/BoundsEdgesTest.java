import java.util.List;
import java.util.function.ToIntFunction;

/** Parts 3 and 4 of the terms and promises 17 to 22, sentence by sentence, just inside and just outside of each edge. */
public final class BoundsEdgesTest {
    private static final Edges edges = new Edges("BoundsEdgesTest");
    private static final String W1 = "p60,d60,o0:w1";

    public static void main(String[] args) {
        bounds();
        boundsAbove();
        held();
        heldByWhom();
        asking();
        best();
        bestOfFive();
        slack();
        slackOfAStep();
        shed();
        shedUpward();
        whatever();
        whateverAtItsEdges();
        nothingIsLeftBehind();
        edges.end();
    }

    private static OneKnife upward(OneKnife knife) {
        return Due.by(knife, 0, 2, 1);
    }

    private static void bounds() {
        edges.says("BOUND of a TASK (RULE 0, LENDING 2, one HAND): the least R with R = WORK and HELD and, of all TASKS that "
            + "ARE and go ahead of it (greater RANK, of like ones lesser numbers), their WORK times R by their SPAN, rounded "
            + "up; from the sum of WORK and HELD on;");
        OneKnife three = upward(Due.with("p7,d7,o0:w3", "p12,d12,o0:w3", "p20,d20,o0:w5"));
        int[] want = {3, 6, 20};
        for (int i = 0; i < 3; i++) {
            edges.is("bound of " + i, three.bound(i), want[i]);
        }
        edges.is("R is a span", upward(Due.with("p6,d6,o0:w3", "p60,d60,o0:w3")).bound(1), 6);
        edges.is("R is one above a span", upward(Due.with("p6,d6,o0:w3", "p60,d60,o0:w4")).bound(1), 10);
        edges.is("2 and 3 would do: the least", upward(Due.with("p2,d2,o0:w1", W1)).bound(1), 2);
        OneKnife two = upward(Due.with(W1, W1));
        int[][] ranks = {{9, 1, 2}, {10, 1, 2}, {11, 2, 1}};
        for (int[] r : ranks) {
            two.set(1, 0, r[0]);
            edges.is("10 and " + r[0] + ": bound of 0", two.bound(0), r[1]);
            edges.is("10 and " + r[0] + ": bound of 1", two.bound(1), r[2]);
        }
        two.drop(1, true);
        edges.is("ahead, but dropped", two.bound(0), 1);
        OneKnife fire = upward(Due.withThing(2, 1, "p60,d60,o0:w2", "p60,d60,o0:t0,w4"));
        edges.is("none ahead: work and held", fire.bound(0), 6);
        edges.is("none behind: work and those ahead", fire.bound(1), 6);
    }

    private static void boundsAbove() {
        edges.says("NONE, if it comes above 400.");
        // R is its own work and 39 times 7, for 7 spans of 60 begin in it.
        String ahead = "p60,d9,o0:w9,w9,w9,w9,w3";
        String nines = "p60,d9,o0:w9,w9,w9,w9,w9,w9,w9,w9,w9,w9,w9,w9,w9,w9";
        edges.is("126: six spans do", upward(Due.with(ahead, nines)).bound(1), 360);
        edges.is("127: 400", upward(Due.with(ahead, nines + ",w1")).bound(1), 400);
        edges.is("128: 401", upward(Due.with(ahead, nines + ",w2")).bound(1), -1);
        edges.is("it never ends", upward(Due.with("p1,d1,o0:w1", W1)).bound(1), -1);
        edges.is("those ahead take more than there is", upward(Due.with("p1,d1,o0:w9", W1)).bound(1), -1);
        edges.is("the one ahead has a bound", upward(Due.with("p1,d1,o0:w9", W1)).bound(0), 9);
    }

    private static void heldOf(String what, int task, int want, String... texts) {
        edges.is(what, upward(Due.withTools(2, texts)).held(task), want);
    }

    private static void held() {
        edges.says("HELD: of all TASKS that ARE and do not go ahead of it, and of THINGS that they take that are FIRES or are "
            + "taken by the TASK or by one that goes ahead of it: the most WORK from a t to its g (or the end).");
        String takes = "p60,d60,o0:t0,w1";
        heldOf("to its g", 0, 4, takes, "p60,d60,o0:t0,w4,g0,w3");
        heldOf("to the end", 0, 7, takes, "p60,d60,o0:t0,w4,w3");
        heldOf("work ahead of the t", 0, 4, takes, "p60,d60,o0:w9,t0,w4,g0");
        heldOf("the most of three", 0, 3, takes, "p60,d60,o0:t0,w1,g0,t0,w3,g0,t0,w2");
        heldOf("all steps between them", 0, 4, takes, "p60,d60,o0:t0,w1,t1,w2,g1,w1,g0,w9");
        heldOf("given back at once", 0, 0, takes, "p60,d60,o0:t0,g0,w9");
        heldOf("another thing", 0, 2, takes, "p60,d60,o0:t0,w2,g0,t1,w9");
        heldOf("the most of two tasks", 0, 5, takes, "p60,d60,o0:t0,w3", "p60,d60,o0:t0,w5");
        heldOf("a thing that none ahead takes", 0, 0, W1, "p60,d60,o0:t0,w4");
        heldOf("a thing that one ahead takes", 1, 4, takes, W1, "p60,d60,o0:t0,w4");
        heldOf("a thing that only one behind takes, too", 1, 0, W1, W1, "p60,d60,o0:t0,w4", "p60,d60,o0:t0,w4");
        heldOf("what the task itself has does not count", 0, 0, "p60,d60,o0:t0,w6", W1);
        heldOf("what those ahead have does not count", 1, 0, "p60,d60,o0:t0,w6", takes);
        OneKnife fire = upward(Due.withThing(2, 1, W1, "p60,d60,o0:t0,w4"));
        edges.is("a fire that none ahead takes", fire.held(0), 4);
        OneKnife scale = upward(Due.withThing(1, 2, W1, "p60,d60,o0:t0,w4"));
        edges.is("a scale that none ahead takes", scale.held(0), 0);
    }

    private static void heldByWhom() {
        edges.says("of all TASKS that ARE and do not go ahead of it");
        String six = "p60,d60,o0:t0,w6";
        String one = "p60,d60,o0:t0,w1";
        OneKnife knife = upward(Due.withTools(1, six, one));
        int[][] ranks = {{10, 9, 1, 0}, {10, 10, 1, 0}, {10, 11, 0, 6}, {0, 1, 0, 6}};
        for (int[] r : ranks) {
            knife.set(0, 0, r[0]);
            knife.set(1, 0, r[1]);
            edges.is("ranks " + r[0] + " " + r[1] + ": held of 0", knife.held(0), r[2]);
            edges.is("ranks " + r[0] + " " + r[1] + ": held of 1", knife.held(1), r[3]);
        }
        knife.drop(0, true);
        edges.is("dropped", knife.held(1), 0);
        OneKnife last = upward(Due.withTools(1, one));
        Due.type(last, 7, six);
        edges.is("by the last task", last.held(0), 6);
        last.type(7, ',');
        edges.is("by a text with a fault", last.held(0), 0);
        last.type(7, 'w');
        last.type(7, '9');
        edges.is("its fault is mended", last.held(0), 15);
        last.wipe(0);
        Due.type(last, 0, W1);
        edges.is("it takes the thing no longer", last.held(0), 0);
    }

    private static void asking() {
        edges.says("BOUND; NONE. BAD; NOT: another RULE, LENDING, more HANDS, or it is none that IS.");
        OneKnife knife = upward(Due.with(W1, W1, "p60,d60,o0:"));
        knife.drop(1, true);
        int[][] others = {{0, 1}, {0, 2}, {1, 0}, {1, 1}, {2, 2}, {2, 3}};
        for (int[] o : others) {
            int was = knife.rule(o[0], o[1]);
            edges.is("bound by " + o[0] + " " + o[1], knife.bound(0), -3);
            edges.is("held by " + o[0] + " " + o[1], knife.held(0), -3);
            edges.is("bad ahead of not", knife.bound(8), -2);
            edges.is("bad ahead of not", knife.held(-1), -2);
            knife.rule(o[0], was);
        }
        edges.is("bound", knife.bound(0), 1);
        edges.is("dropped", knife.bound(1), -3);
        edges.is("a fault", knife.bound(2), -3);
        edges.is("no text", knife.bound(7), -3);
        edges.is("task -1", knife.bound(-1), -2);
        edges.is("task 8", knife.bound(8), -2);
        OneKnife last = upward(Due.type(new OneKnife(), 7, W1));
        edges.is("task 7", last.bound(7), 1);

        edges.says("HELD, as of BOUND. BAD; NOT.");
        edges.is("held", knife.held(0), 0);
        edges.is("dropped", knife.held(1), -3);
        edges.is("a fault", knife.held(2), -3);
        edges.is("no text", knife.held(7), -3);
        edges.is("task -1", knife.held(-1), -2);
        edges.is("task 8", knife.held(8), -2);
        edges.is("task 7", last.held(7), 0);
    }

    private static String order(OneKnife knife, int number) {
        StringBuilder signs = new StringBuilder();
        for (int i = 0; i < number; i++) {
            int task = knife.best(i);
            signs.append(task == OneKnife.NONE ? "-" : String.valueOf(task));
        }
        return signs.toString();
    }

    private static void best() {
        edges.says("BEST RANKS, of the TASKS that ARE (5 at most: FULL): an order in which, RANKS 90, 89, .. given by it, "
            + "nothing is LATE in the RUN; of such ones the first (the first TASK compared first); NONE.");
        edges.is("all of them do: the first", order(Due.with(W1, W1, W1), 3), "012");
        edges.is("2 first", order(Due.with(W1, W1, "p60,d1,o0:w1"), 3), "201");
        edges.is("1 last", order(Due.with("p60,d2,o0:w1", W1, "p60,d2,o0:w1"), 3), "021");
        edges.is("none does", order(Due.with("p60,d1,o0:w1", "p60,d1,o0:w1"), 2), "--");
        edges.is("one task", order(Due.with(W1), 1), "0");
        OneKnife knife = Due.with("p60,d2,o0:w1", "p60,d1,o0:w1");
        edges.is("one does", order(knife, 2), "10");
        knife.wipe(0);
        Due.type(knife, 0, "p60,d1,o0:w1");
        edges.is("none does any longer", order(knife, 2), "--");
        knife.rule(2, 2);
        edges.is("with another hand all do", order(knife, 2), "01");
        OneKnife end = Due.with("p60,d5,o0:w5", "p60,d5,o0:w5");
        edges.is("both are due in the run", order(end, 2), "--");
        end.rule(3, 4);
        edges.is("both are due behind it", order(end, 2), "01");

        edges.says("The i-th TASK of BEST RANKS; NONE. BAD: i below 0, as many as ARE and more; FULL.");
        edges.is("nobody there", new OneKnife().best(0), -2);
        edges.is("i -1", knife.best(-1), -2);
        edges.is("i 1", knife.best(1), 1);
        edges.is("i 2", knife.best(2), -2);
        OneKnife six = Due.with(W1, W1, W1, W1, W1, W1);
        edges.is("six", six.best(0), -4);
        edges.is("six", six.best(5), -4);
        edges.is("six, bad ahead of full", six.best(6), -2);
        edges.is("six, bad ahead of full", six.best(-1), -2);
        six.drop(2, true);
        edges.is("five", order(six, 5), "01345");
        edges.is("five, i 5", six.best(5), -2);
    }

    /** Each order of five tasks is the only one, if the tasks are due at 1, 2, 3, 4, 5 by it. */
    private static void bestOfFive() {
        edges.says("an order in which, RANKS 90, 89, .. given by it, nothing is LATE in the RUN");
        for (int code = 0; code < 3125; code++) {
            String order = "";
            for (int k = 0, rest = code; k < 5; k++, rest /= 5) {
                order = rest % 5 + order;
            }
            if (order.chars().distinct().count() == 5) {
                OneKnife knife = new OneKnife();
                for (int i = 0; i < 5; i++) {
                    Due.type(knife, i, "p60,d" + (order.indexOf('0' + i) + 1) + ",o0:w1");
                }
                edges.is("the only order", order(knife, 5), order);
            }
        }
    }

    private static void slack() {
        edges.says("SLACK of a STEP of work: by how many TICKS more (up to 20) at most it may be so that nothing is LATE in "
            + "the RUN (each less one does, too); NONE: something is as it is.");
        int[][] of = {{1, 0}, {2, 1}, {19, 18}, {20, 19}, {21, 20}, {22, 20}, {60, 20}};
        for (int[] o : of) {
            edges.is("due at " + o[0], Due.with("p60,d" + o[0] + ",o0:w1").slack(0, 0), o[1]);
        }
        edges.is("late as it is", Due.with("p60,d1,o0:w2").slack(0, 0), -1);
        edges.is("another one is late as it is", Due.with(W1, "p60,d1,o0:w1").slack(0, 0), -1);
        edges.is("another one would be late", Due.with(W1, "p60,d3,o0:w1").slack(0, 0), 1);
        OneKnife end = Due.with("p60,d10,o0:w1");
        end.rule(3, 9);
        edges.is("due behind the run", end.slack(0, 0), 20);
        end.rule(3, 10);
        edges.is("due at its end", end.slack(0, 0), 9);
        // One more of work makes 0 wait till 6, and late; two more, and 0 comes first.
        OneKnife odd = Due.withTools(1, "p60,d4,o3:t0,w2", "p60,d60,o0:w1,t0,w4,g0");
        edges.is("each less one does, too", odd.slack(1, 0), 0);
        OneKnife often = Due.with("p4,d4,o0:w1");
        edges.is("of each of its jobs", often.slack(0, 0), 3);
    }

    private static void slackOfAStep() {
        edges.says("SLACK; NONE. BAD: also a STEP that is no work; NOT: the TASK is none that IS.");
        OneKnife knife = Due.withTools(1, "p60,d9,o0:t0,w3,g0,w2", "p60,d60,o0:w1,");
        int[] want = {-2, -2, 4, -2, 4, -2};
        for (int step = -1; step < 5; step++) {
            edges.is("step " + step, knife.slack(0, step), want[step + 1]);
        }
        edges.is("a fault: no steps", knife.slack(1, 0), -2);
        edges.is("no text: no steps", knife.slack(7, 0), -2);
        edges.is("task -1", knife.slack(-1, 0), -2);
        edges.is("task 7", Due.type(new OneKnife(), 7, "p60,d5,o0:w1").slack(7, 0), 4);
        edges.is("task 8", knife.slack(8, 0), -2);
        knife.drop(0, true);
        edges.is("dropped", knife.slack(0, 1), -3);
        edges.is("dropped, bad ahead of not", knife.slack(0, 0), -2);
        OneKnife longest = Due.with("p9,d99,o0:w1,w1,w1,w1,w1,w1,w1,w1,w1,w1,w1,w1,w1,w1,w1,w1,w1");
        longest.rule(3, 30);
        edges.is("the 17th step", longest.slack(0, 16), 20);
        edges.is("an 18th", longest.slack(0, 17), -2);
    }

    private static void shed(String what, OneKnife knife, int bits, int worth) {
        edges.is(what + ": who", knife.shed(0), bits);
        edges.is(what + ": worth", knife.shed(1), worth);
    }

    private static void shed() {
        edges.says("SHED: which TASKS (of those that ARE) to drop so that nothing is LATE, and the WORTH of those kept is the "
            + "greatest, of like ones the fewest dropped, then the least as bits.");
        shed("nobody there", new OneKnife(), 0, 0);
        shed("nothing is late", Due.with(W1, W1), 0, 2);
        shed("all must go", Due.with("p60,d1,o0:w2", "p60,d1,o0:w2"), 3, 0);
        String only = "p60,d1,o0:w1";
        OneKnife knife = Due.with(only, only, only);
        shed("the least as bits", knife, 3, 1);
        knife.set(1, 1, 2);
        shed("the greatest worth", knife, 5, 2);
        knife.set(0, 1, 2);
        shed("of two with like worth the least as bits", knife, 5, 2);
        knife.drop(1, true);
        shed("of those that are", knife, 4, 2);
        // 2 alone is worth as much as 0 and 1.
        OneKnife few = Due.with("p60,d4,o0:w2", "p60,d4,o0:w2", "p60,d4,o0:w4");
        few.set(2, 1, 2);
        shed("the fewest dropped, though not the least as bits", few, 4, 2);
        few.set(2, 1, 3);
        shed("the greatest worth, though more are dropped", few, 3, 3);
        OneKnife nothing = Due.with(only, only);
        nothing.set(0, 1, 0);
        nothing.set(1, 1, 0);
        shed("they are worth nothing: the fewest", nothing, 1, 0);
        OneKnife eight = Due.with(only, only, only, only, only, only, only, only);
        shed("eight", eight, 127, 1);
        for (int i = 0; i < 8; i++) {
            eight.set(i, 1, 99);
        }
        eight.set(7, 1, 98);
        shed("eight", eight, 191, 99);
        eight.rule(3, 1);
        shed("they are due at the end", eight, 191, 99);
        OneKnife behind = Due.with("p60,d2,o0:w2", "p60,d2,o0:w2");
        behind.rule(3, 1);
        shed("they are due behind the end", behind, 0, 2);

        edges.says("SHED: as bits (what = 0), the WORTH that is kept (1). BAD.");
        edges.is("what -1", knife.shed(-1), -2);
        edges.is("what 2", knife.shed(2), -2);
    }

    private static void shedUpward() {
        edges.says("is taken, by texts of TASKS that ARE, by none but those of lesser RANK than it");
        // 2 has thing 0, which 1 would take, and so 0 waits upward; if 1 is dropped, 0 may take thing 1.
        OneKnife knife = upward(Due.withTools(2, "p60,d1,o1:t1,w1", "p60,d60,o50:t0,w1", "p60,d60,o0:t0,w4"));
        knife.set(0, 1, 5);
        knife.set(1, 0, 11);
        edges.is("late", knife.late(), 1);
        shed("the text of a dropped one bars nobody", knife, 2, 6);
    }

    private static void whateverIs(String what, OneKnife knife, int task, int j, int longest, int ways) {
        edges.is(what + ", later by " + j + ": the longest of " + task, knife.whatever(task, j, 0), longest);
        edges.is(what + ", later by " + j + ": ways", knife.whatever(task, j, 1), ways);
    }

    private static void whatever() {
        edges.says("WHATEVER: BEGINNINGS are later by 0 to j (1 to 3) each, all ways gone through, TASKS that ARE 4 at most "
            + "(FULL): the longest RESPONSE of a TASK (NONE: no JOB of it is DONE), how many ways have something LATE.");
        String late = "p60,d1,o0:w2";
        whateverIs("nobody there", new OneKnife(), 0, 3, -1, 0);
        for (int j = 1; j <= 3; j++) {
            whateverIs("one", Due.with(late), 0, j, 2, j + 1);
            whateverIs("two", Due.with(late, late), 0, j, 2, (j + 1) * (j + 1));
            whateverIs("four", Due.with(late, late, late, late), 3, j, 8, (int) Math.pow(j + 1, 4));
        }
        // 1 is done by 5, unless it begins 3 later: then 0 comes between.
        OneKnife knife = Due.with("p60,d60,o5:w3", "p60,d5,o0:w3");
        whateverIs("it comes between", knife, 1, 1, 3, 0);
        whateverIs("it comes between", knife, 1, 2, 3, 0);
        // 0 begins at 5 in one of its four ways; only then 1 is done behind its end.
        whateverIs("it comes between", knife, 1, 3, 6, 1);
        whateverIs("it is never put aside", knife, 0, 3, 3, 1);
        edges.is("the run is as it was", knife.done(1, 0), 3);
        // 0 is late at once in all ways; what comes behind that counts, too.
        OneKnife behind = Due.with("p10,d1,o0:w2", "p60,d60,o8:w4");
        whateverIs("behind what is late", behind, 1, 1, 6, 4);
    }

    private static void whateverAtItsEdges() {
        edges.says("WHATEVER: the longest RESPONSE of a TASK (what = 0; NONE), in how many ways something is LATE (1). BAD; "
            + "FULL.");
        OneKnife five = Due.with(W1, W1, W1, W1, W1);
        edges.is("five", five.whatever(0, 1, 0), -4);
        edges.is("five", five.whatever(7, 3, 1), -4);
        edges.is("five, bad ahead of full", five.whatever(0, 0, 0), -2);
        edges.is("five, bad ahead of full", five.whatever(8, 1, 0), -2);
        five.drop(0, true);
        whateverIs("four", five, 4, 1, 4, 0);
        whateverIs("a dropped one", five, 0, 1, -1, 0);
        OneKnife knife = Due.with("p60,d60,o50:w2");
        edges.is("j 0", knife.whatever(0, 0, 0), -2);
        edges.is("j 4", knife.whatever(0, 4, 0), -2);
        edges.is("j -1", knife.whatever(0, -1, 0), -2);
        edges.is("what -1", knife.whatever(0, 1, -1), -2);
        edges.is("what 2", knife.whatever(0, 1, 2), -2);
        edges.is("task -1", knife.whatever(-1, 1, 0), -2);
        edges.is("task 7", knife.whatever(7, 1, 0), -1);
        edges.is("task 8", knife.whatever(8, 1, 0), -2);
        knife.rule(3, 52);
        whateverIs("done if it is not later", knife, 0, 3, 2, 0);
        knife.rule(3, 51);
        whateverIs("done in none", knife, 0, 3, -1, 0);
        OneKnife end = Due.with("p60,d1,o99:w2");
        end.rule(3, 102);
        whateverIs("due at the end, if it is later by 2", end, 0, 3, 2, 3);
        OneKnife apart = new OneKnife();
        Due.type(apart, 4, "p60,d1,o0:w2");
        Due.type(apart, 7, "p60,d1,o0:w2");
        whateverIs("only those that are begin later", apart, 7, 3, 4, 16);
    }

    private static OneKnife tight() {
        OneKnife knife = Due.withTools(1, "p20,d8,o1:t0,w2,g0,w1", "p20,d13,o2:w4", "p20,d20,o0:t0,w4,g0,w1", "p20,d20,o3:w2");
        knife.rule(1, 1);
        knife.rule(3, 40);
        knife.sheet(0, 0, 30);
        knife.write(0);
        return knife;
    }

    /** No search leaves something behind for another one. */
    private static void nothingIsLeftBehind() {
        edges.says("They change nothing (FINDINGS but count() 8).");
        String[] names = {"late", "best", "slack 0 1", "slack 0 3", "slack 2 1", "slack 3 0", "shed 0", "shed 1",
            "whatever 1", "whatever 2", "whatever 3 late", "fits", "mended 0", "mended 1"};
        List<ToIntFunction<OneKnife>> asks = List.of(OneKnife::late, x -> x.best(0) * 10 + x.best(1),
            x -> x.slack(0, 1), x -> x.slack(0, 3), x -> x.slack(2, 1), x -> x.slack(3, 0), x -> x.shed(0), x -> x.shed(1),
            x -> x.whatever(2, 1, 0), x -> x.whatever(2, 2, 0), x -> x.whatever(1, 3, 1), x -> x.fits(0),
            x -> x.mended(0), x -> x.mended(1));
        for (int hands = 1; hands <= 2; hands++) {
            for (int first = 0; first < asks.size(); first++) {
                for (int then = 0; then < asks.size(); then++) {
                    OneKnife asked = tight();
                    OneKnife fresh = tight();
                    asked.rule(2, hands);
                    fresh.rule(2, hands);
                    asks.get(first).applyAsInt(asked);
                    String what = names[then] + " behind " + names[first] + " with " + hands + " hands";
                    edges.is(what, asks.get(then).applyAsInt(asked), asks.get(then).applyAsInt(fresh));
                    edges.is("the run behind " + what, asked.digest() == fresh.digest() ? 1 : 0, 1);
                }
            }
        }
    }
}
