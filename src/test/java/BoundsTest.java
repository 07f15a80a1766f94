/** Promises 17 to 22: bounds that are reckoned, and what is found by running again and again. */
public final class BoundsTest {
    private static final Due due = new Due("BoundsTest");
    private static final int[] NO_TASKS = {-2147483648, -1, 8, 2147483647};

    public static void main(String[] args) {
        bounds();
        boundsAtTheirEdge();
        mayNotBeReckoned();
        held();
        best();
        bestRefusals();
        slack();
        shed();
        whatever();
        answersGoByWhatIsSet();
        due.end();
    }

    private static OneKnife upward(OneKnife knife) {
        knife.rule(1, 2);
        return knife;
    }

    private static void bounds() {
        OneKnife knife = upward(Due.with("p7,d7,o0:w3", "p12,d12,o0:w3", "p20,d20,o0:w5"));
        due.is("bound", knife.bound(0), 3);
        due.is("bound", knife.bound(1), 6);
        due.is("bound", knife.bound(2), 20);
        knife.set(2, 0, 10);
        due.is("of like ranks lesser numbers go ahead", knife.bound(0), 3);
        due.is("of like ranks lesser numbers go ahead", knife.bound(2), 11);
        due.is("and the others behind", knife.bound(1), 14);
        knife.drop(0, true);
        due.is("those that are", knife.bound(2), 5);
        due.is("those that are", knife.bound(1), 8);
        due.is("a span that fits to the tick", upward(Due.with("p6,d6,o0:w3", "p8,d8,o0:w3")).bound(1), 6);
    }

    private static void boundsAtTheirEdge() {
        // R is its own work and 39 times 7, for 7 spans of 60 begin in it.
        String ahead = "p60,d9,o0:w9,w9,w9,w9,w3";
        String nines = "p60,d9,o0:w9,w9,w9,w9,w9,w9,w9,w9,w9,w9,w9,w9,w9,w9,";
        due.is("400", upward(Due.with(ahead, nines + "w1")).bound(1), 400);
        due.is("above 400", upward(Due.with(ahead, nines + "w2")).bound(1), -1);
        due.is("it never ends", upward(Due.with("p1,d1,o0:w1", "p60,d9,o0:w1")).bound(1), -1);
        due.is("above 400 by one ahead of it", upward(Due.with("p1,d1,o0:w9", "p60,d9,o0:w1")).bound(1), -1);
    }

    private static void mayNotBeReckoned() {
        OneKnife knife = upward(Due.with("p7,d7,o0:w3", "p12,d12,o0:"));
        for (int task : NO_TASKS) {
            due.is("bound", knife.bound(task), -2);
            due.is("held", knife.held(task), -2);
        }
        due.is("a fault", knife.bound(1), -3);
        due.is("a fault", knife.held(1), -3);
        int[][] others = {{0, 1}, {0, 2}, {1, 0}, {1, 1}, {2, 2}, {2, 3}};
        for (int[] o : others) {
            int was = knife.rule(o[0], o[1]);
            due.is("bound by another rule", knife.bound(0), -3);
            due.is("held by another rule", knife.held(0), -3);
            due.is("bad ahead of it", knife.bound(8), -2);
            knife.rule(o[0], was);
        }
        due.is("bound", knife.bound(0), 3);
        due.is("held", knife.held(0), 0);
        knife.drop(0, true);
        due.is("dropped", knife.bound(0), -3);
        due.is("dropped", knife.held(0), -3);
    }

    private static void held() {
        OneKnife knife = upward(Due.withTools(3, "p60,d60,o0:t0,w1,g0", "p60,d60,o0:w2",
            "p60,d60,o0:t0,w4,g0,w1,t0,w5,g0,t1,w9,g1", "p60,d60,o0:t1,t0,w2,t2,w1,g0,w4"));
        due.is("by its own thing, the longest one", knife.held(0), 5);
        due.is("by a thing of one ahead", knife.held(1), 5);
        due.is("by a thing of its own to the end", knife.held(2), 7);
        due.is("by none behind it", knife.held(3), 0);
        due.is("bound and held", knife.bound(0), 6);
        due.is("bound and held", knife.bound(1), 2 + 5 + 1);
        knife.drop(2, true);
        due.is("those that are", knife.held(0), 3);
        OneKnife fires = new OneKnife();
        fires.thing(0, 1);
        fires.thing(2, 1);
        Due.type(fires, 0, "p60,d60,o0:w1");
        Due.type(fires, 1, "p60,d60,o0:t0,w8,g0,t1,w3,g1");
        upward(fires);
        due.is("a fire holds all", fires.held(0), 3);
        due.is("one's own fire does not", fires.held(1), 0);
        due.is("bound", fires.bound(0), 4);
        OneKnife without = upward(Due.withTools(1, "p60,d60,o0:w1", "p60,d60,o0:t0,w8", "p60,d60,o0:t0"));
        due.is("a thing that none ahead takes", without.held(0), 0);
        due.is("a text with a fault takes nothing", without.held(1), 0);
    }

    private static void best(String what, OneKnife knife, int... want) {
        for (int i = 0; i < want.length; i++) {
            due.is(what + ": best " + i, knife.best(i), want[i]);
        }
    }

    private static void best() {
        best("the second ahead", Due.with("p20,d9,o0:w4", "p20,d4,o0:w4"), 1, 0);
        best("either way", Due.with("p20,d9,o0:w4", "p20,d9,o0:w4"), 0, 1);
        best("no way", Due.with("p20,d4,o0:w4", "p20,d4,o0:w4"), -1, -1);
        best("the first of such", Due.with("p40,d40,o0:w4", "p40,d12,o0:w4", "p40,d4,o0:w4"), 2, 0, 1);
        best("the only order", Due.with("p40,d15,o0:w3", "p40,d12,o0:w3", "p40,d9,o0:w3", "p40,d6,o0:w3", "p40,d3,o0:w3"), 4, 3, 2, 1, 0);
        OneKnife gaps = new OneKnife();
        Due.type(gaps, 2, "p40,d9,o0:w4");
        Due.type(gaps, 5, "p40,d4,o0:w4");
        Due.type(gaps, 7, "p40,d2,o0:w2");
        gaps.drop(7, true);
        best("of those that are", gaps, 5, 2);
        due.is("as many as are", gaps.best(2), -2);
        OneKnife byEnd = Due.with("p20,d9,o0:w4", "p20,d4,o0:w4");
        byEnd.rule(0, 1);
        best("by end every order serves", byEnd, 0, 1);
        OneKnife turns = Due.with("p20,d4,o0:w4", "p20,d9,o0:w4");
        turns.rule(0, 2);
        best("by turns none does", turns, -1, -1);
        // 1 takes 1 on tick 1, while 0 has 0, which 2 takes: upward it may do so only, if it is above 0 and 2.
        OneKnife upward = Due.withTools(2, "p60,d60,o0:t0,w6", "p60,d2,o1:t1,w2", "p60,d60,o40:t0,w1");
        upward.rule(1, 2);
        best("ranks count upward", upward, 1, 0, 2);
        upward.rule(0, 1);
        best("ranks count upward by end", upward, 1, 0, 2);
    }

    private static void bestRefusals() {
        OneKnife knife = new OneKnife();
        due.is("none", knife.best(0), -2);
        for (int i = 0; i < 6; i++) {
            Due.type(knife, i, "p60,d60,o0:w1");
        }
        due.is("six", knife.best(0), -4);
        due.is("bad ahead of full", knife.best(6), -2);
        due.is("bad ahead of full", knife.best(-1), -2);
        knife.drop(3, true);
        best("five", knife, 0, 1, 2, 4, 5, -2);
    }

    private static void slack() {
        OneKnife knife = Due.withTools(1, "p20,d10,o0:t0,w3,g0,w2", "p60,d60,o0:w1", "p60,d60,o0:");
        due.is("slack", knife.slack(0, 1), 5);
        due.is("slack", knife.slack(0, 3), 5);
        due.is("up to 20", knife.slack(1, 0), 20);
        int[] steps = {-2147483648, -1, 0, 2, 4, 2147483647};
        for (int step : steps) {
            due.is("slack of no work", knife.slack(0, step), -2);
        }
        for (int task : NO_TASKS) {
            due.is("slack of no task", knife.slack(task, 1), -2);
        }
        due.is("a fault: no steps", knife.slack(2, 0), -2);
        knife.drop(0, true);
        due.is("dropped", knife.slack(0, 1), -3);
        due.is("dropped, no work", knife.slack(0, 0), -2);
        OneKnife tight = Due.with("p20,d3,o0:w3", "p20,d9,o0:w3", "p20,d20,o0:w3");
        due.is("none more", tight.slack(0, 0), 0);
        due.is("more", tight.slack(1, 0), 3);
        due.is("more", tight.slack(2, 0), 11);
        tight.wipe(0);
        Due.type(tight, 0, "p20,d2,o0:w3");
        due.is("late as it is", tight.slack(1, 0), -1);
        // As it is 0 waits for the thing until 5; one more of work ahead of it makes that 6, and 0 late;
        // two more, and 0 comes first: in time, but each less one does not do.
        OneKnife odd = Due.withTools(1, "p60,d4,o3:t0,w2", "p60,d60,o0:w1,t0,w4,g0");
        due.is("each less one does, too", odd.slack(1, 0), 0);
        odd.wipe(1);
        Due.type(odd, 1, "p60,d60,o0:w3,t0,w4,g0");
        due.is("behind the odd place", odd.slack(1, 0), 20);
        OneKnife never = Due.with("p60,d60,o0:w1");
        never.rule(3, 5);
        due.is("what is due behind the run is not late", never.slack(0, 0), 20);
    }

    private static void shed(String what, OneKnife knife, int bits, int worth) {
        due.is(what + ": shed 0", knife.shed(0), bits);
        due.is(what + ": shed 1", knife.shed(1), worth);
    }

    private static void shed() {
        shed("nothing there", new OneKnife(), 0, 0);
        OneKnife knife = Due.with("p20,d3,o0:w3", "p20,d3,o0:w3", "p20,d3,o0:w3");
        shed("the least bits", knife, 3, 1);
        knife.set(0, 1, 2);
        shed("the most worth", knife, 6, 2);
        knife.set(0, 1, 0);
        knife.set(1, 1, 0);
        knife.set(2, 1, 0);
        shed("the fewest dropped, though nothing is worth anything", knife, 3, 0);
        OneKnife two = Due.with("p20,d4,o0:w2", "p20,d4,o0:w2", "p20,d4,o0:w4");
        two.set(2, 1, 2);
        shed("of like worth the fewest, though not the least bits", two, 4, 2);
        two.set(2, 1, 1);
        shed("two are worth more than one", two, 4, 2);
        two.drop(2, true);
        shed("of those that are", two, 0, 2);
        two.rule(3, 3);
        shed("what is due behind the run is not late", two, 0, 2);
        OneKnife end = Due.with("p60,d5,o0:w9");
        end.rule(3, 5);
        shed("due at the end of the run", end, 1, 0);
        end.rule(3, 4);
        shed("due behind it", end, 0, 1);
        OneKnife row = Due.with("p3,d5,o0:w4");
        row.rule(3, 8);
        shed("the second job is done as it is due", row, 0, 1);
        row.rule(3, 10);
        shed("the third one would be late behind the run", row, 0, 1);
        row.rule(3, 11);
        shed("it is due at the end", row, 1, 0);
        shed("done in choosing as it is due", Due.withTools(1, "p60,d1,o0:w1,t0"), 0, 1);
        due.is("shed -1", two.shed(-1), -2);
        due.is("shed 2", two.shed(2), -2);
    }

    private static void whatever() {
        OneKnife knife = Due.with("p40,d3,o0:w2", "p40,d3,o0:w2");
        due.is("the longest", knife.whatever(0, 1, 0), 2);
        due.is("the longest", knife.whatever(1, 1, 0), 4);
        // Only where 1 begins later than 0 it is in time.
        due.is("ways", knife.whatever(0, 1, 1), 3);
        due.is("ways of another task", knife.whatever(7, 1, 1), 3);
        // In time: (0, 1), (0, 2), (1, 2), (2, 0): 1 is done ahead of 0 there; so it is late in 5 of 9.
        due.is("ways by 2", knife.whatever(0, 2, 1), 5);
        due.is("no job", knife.whatever(7, 1, 0), -1);
        due.is("the run is as it was", knife.late(), 2);
        for (int task : NO_TASKS) {
            due.is("whatever", knife.whatever(task, 1, 0), -2);
        }
        int[][] bad = {{0, 0}, {4, 0}, {-1, 0}, {1, -1}, {1, 2}};
        for (int[] b : bad) {
            due.is("whatever", knife.whatever(0, b[0], b[1]), -2);
        }
        OneKnife apart = new OneKnife();
        Due.type(apart, 3, "p40,d3,o0:w2");
        Due.type(apart, 6, "p40,d3,o0:w2");
        due.is("only those that are begin later", apart.whatever(3, 1, 1), 3);
        due.is("only those that are begin later", apart.whatever(6, 1, 0), 4);
        due.is("nobody, one way", new OneKnife().whatever(0, 3, 1), 0);
        due.is("all late", Due.with("p9,d1,o0:w2").whatever(0, 3, 1), 4);
        OneKnife five = Due.with("p9,d9,o0:w1", "p9,d9,o0:w1", "p9,d9,o0:w1", "p9,d9,o0:w1", "p9,d9,o0:w1");
        due.is("five", five.whatever(0, 1, 0), -4);
        due.is("bad ahead of full", five.whatever(0, 4, 0), -2);
        five.drop(4, true);
        due.is("four", five.whatever(3, 1, 0), 4);
        due.is("dropped: no job", five.whatever(4, 1, 0), -1);
        OneKnife end = Due.with("p60,d60,o99:w1");
        end.rule(3, 103);
        due.is("begins behind 99", end.whatever(0, 3, 0), 1);
        end.rule(3, 101);
        due.is("done in some of the ways", end.whatever(0, 3, 0), 1);
        end.rule(3, 99);
        due.is("done in none", end.whatever(0, 3, 0), -1);
    }

    private static void answersGoByWhatIsSet() {
        OneKnife knife = Due.with("p20,d9,o0:w4", "p20,d4,o0:w4");
        due.is("before", knife.best(0), 1);
        due.is("before", knife.shed(1), 1);
        due.is("before", knife.whatever(1, 1, 1), 4);
        due.is("before", knife.mended(0), 1);
        knife.set(1, 0, 50);
        due.is("behind", knife.shed(1), 2);
        due.is("behind", knife.whatever(1, 1, 1), 0);
        due.is("behind", knife.mended(0), 0);
        knife.wipe(1);
        Due.type(knife, 1, "p20,d9,o0:w4");
        due.is("behind", knife.best(0), 0);
        due.is("the ranks are as they were", knife.about(0, 6), 10);
        due.is("the ranks are as they were", knife.about(1, 6), 50);
    }
}
