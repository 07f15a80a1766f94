/** Logs and mending of part 5 of the terms and promises 23 and 24, sentence by sentence, just inside and just outside of each edge. */
public final class LogsEdgesTest {
    private static final Edges edges = new Edges("LogsEdgesTest");

    public static void main(String[] args) {
        items();
        lengths();
        rules();
        fits();
        fewestChanges();
        threeChanges();
        ofLikeOnes();
        mended();
        edges.end();
    }

    private static int fitsLog(OneKnife knife, int type, int... items) {
        knife.sheet(3, type, items.length);
        for (int i = 0; i < items.length; i++) {
            knife.put(3, type, i, items[i]);
        }
        return knife.fits(3);
    }

    /** By rank it is 0 0 1 1, by the nearest end 0 1 1 0, by turns 0 1 0 1, and nobody behind that. */
    private static OneKnife apart() {
        return Due.with("p60,d12,o0:w2", "p60,d5,o1:w2");
    }

    private static void items() {
        edges.says("A LOG: items of a SHEET: of each TICK from 0 on the TASK at WORK that was the first to be chosen (NONE: "
            + "nobody; others than TASKS and -1: not seen).");
        OneKnife knife = apart();
        for (int type = 0; type < 3; type++) {
            edges.is("task 0", fitsLog(knife, type, 0), 511);
            edges.is("task 7", fitsLog(knife, type, 7), 0);
            edges.is("8: not seen", fitsLog(knife, type, 8), 511);
            edges.is("nobody", fitsLog(knife, type, -1), 0);
            edges.is("-2: not seen", fitsLog(knife, type, -2), 511);
            edges.is("greatest byte: not seen", fitsLog(knife, type, 127), 511);
            edges.is("least byte: not seen", fitsLog(knife, type, -128), 511);
            edges.is("nobody worked on tick 4", fitsLog(knife, type, 8, 8, 8, 8, -1), 511);
            edges.is("somebody on tick 4", fitsLog(knife, type, 8, 8, 8, 8, 0), 0);
            edges.is("not seen on tick 4", fitsLog(knife, type, 8, 8, 8, 8, 8), 511);
            edges.is("one seen between others", fitsLog(knife, type, -2, 0), 7);
        }
        edges.is("greatest and least int: not seen", fitsLog(knife, 2, 2147483647, -2147483648, 1), 63);
        Due.by(knife, 0, 0, 2);
        edges.is("two hands: the first chosen", fitsLog(knife, 0, 0, 0, 1, -1), 7);
        edges.is("two hands: the second chosen", fitsLog(knife, 0, -1, 1), 0);
    }

    private static void lengths() {
        edges.says("It FITS RULES: bits 3 RULE and LENDING by which the RUN (as long as it is) goes so.");
        OneKnife knife = apart();
        edges.is("no items", fitsLog(knife, 0), 511);
        edges.is("one", fitsLog(knife, 0, 0), 511);
        edges.is("two", fitsLog(knife, 0, 0, 1), 504);
        edges.is("three", fitsLog(knife, 0, 0, 1, 0), 448);
        knife.rule(3, 4);
        edges.is("an item for the last tick", fitsLog(knife, 0, 0, 0, 1, 0), 0);
        edges.is("one behind the last tick", fitsLog(knife, 0, 0, 0, 1, 1, 5), 7);
        knife.rule(3, 5);
        edges.is("another tick", fitsLog(knife, 0, 0, 0, 1, 1, 5), 0);
        knife.rule(3, 120);
        knife.sheet(2, 1, 60);
        knife.write(2);
        edges.is("60 items", knife.fits(2), 7);
        knife.put(2, 1, 59, 0);
        edges.is("the last of 60", knife.fits(2), 0);
        OneKnife late = Due.with("p60,d1,o0:w2", "p60,d60,o2:w1");
        edges.is("a run goes on behind what is late", fitsLog(late, 0, 0, 0, 1, -1), 511);
        edges.is("a run goes on behind what is late", fitsLog(late, 0, 0, 0, -1), 0);
    }

    private static void rules() {
        edges.says("bits 3 RULE and LENDING by which the RUN");
        // 0 would take thing 1 on tick 1, while 2 has thing 0, which 0 takes later.
        OneKnife knife = Due.withTools(2, "p60,d10,o1:t1,w1,t0,w1", "p60,d20,o1:w2", "p60,d99,o0:t0,w3");
        knife.set(1, 0, 99);
        String[] runs = {"2110220-", "2110220-", "2112200-", "2011220-", "2022011-", "2220011-", "2012120-", "2012120-", "2121200-"};
        int[] bits = {3, 3, 4, 8, 16, 32, 192, 192, 256};
        knife.sheet(0, 0, 8);
        for (int b = 0; b < 9; b++) {
            knife.rule(0, b / 3);
            knife.rule(1, b % 3);
            edges.is("bit " + b, Due.chosen(knife, 0, 8), runs[b]);
            knife.write(0);
            edges.is("bit " + b, knife.fits(0), bits[b]);
            edges.is("the rule stays", knife.count(4) * 3 + knife.count(5), b);
        }
    }

    private static void fits() {
        edges.says("FITS, as bits 0 to 8. BAD; NULL.");
        OneKnife knife = new OneKnife();
        edges.is("sheet -1", knife.fits(-1), -2);
        edges.is("sheet 4", knife.fits(4), -2);
        edges.is("bad is no finding", knife.count(8), 0);
        edges.is("lost", knife.fits(0), -11);
        edges.is("lost", knife.count(8), 1);
        edges.is("lost", knife.fits(3), -11);
        knife.sheet(3, 0, 1);
        edges.is("0 is task 0, and nobody worked", knife.fits(3), 0);
        knife.put(3, 0, 0, -1);
        edges.is("nobody worked", knife.fits(3), 511);
    }

    private static void mendedIs(String what, OneKnife knife, int... want) {
        for (int i = 0; i < want.length; i++) {
            edges.is(what + ": mended " + i, knife.mended(i), want[i]);
        }
    }

    private static void fewestChanges() {
        edges.says("MENDED: the fewest changes by which nothing is LATE and there is no RING: RULE to another, LENDING to "
            + "another, the RANKS of two TASKS that ARE put for one another (one change each; up to 2 changes, of which one "
            + "at most is of RANKS);");
        mendedIs("nobody there", new OneKnife(), 0, 0, 0, -1, -1);
        OneKnife in = Due.by(apart(), 1, 2, 1);
        mendedIs("nothing is late", in, 0, 1, 2, -1, -1);
        in.rule(0, 2);
        mendedIs("nothing is late", in, 0, 2, 2, -1, -1);
        for (int a = 0; a < 8; a++) {
            for (int b = a + 1; b < 8; b++) {
                OneKnife pair = new OneKnife();
                Due.type(pair, a, "p60,d9,o0:w4");
                Due.type(pair, b, "p60,d4,o0:w4");
                mendedIs("one change of ranks", pair, 1, 0, 0, a, b);
            }
        }
        OneKnife ring = Due.by(Due.withTools(2, "p60,d98,o0:t0,w1,t1,w1", "p60,d98,o0:t1,w1,t0,w1"), 0, 0, 2);
        edges.is("nothing is late", ring.late(), 0);
        mendedIs("but there is a ring: another lending", ring, 1, 0, 2, -1, -1);
        OneKnife both = Due.withTools(2, "p60,d4,o2:t0,t1,w3", "p60,d15,o2:t0,w3", "p60,d12,o1:t1,w1,t0");
        mendedIs("another rule and another lending, the last ones", both, 2, 2, 2, -1, -1);
        both.rule(0, 2);
        mendedIs("another lending", both, 1, 2, 2, -1, -1);
        both.rule(1, 2);
        mendedIs("none", both, 0, 2, 2, -1, -1);
        both.rule(0, 0);
        mendedIs("another rule", both, 1, 2, 2, -1, -1);
    }

    private static void threeChanges() {
        edges.says("up to 2 changes, of which one at most is of RANKS");
        // 1 may not take thing 1 on tick 2, so that 0 gets it on tick 3: upward, by turns, and with 2 above 1.
        OneKnife three = Due.by(Due.withTools(2, "p60,d3,o3:t1,w3", "p60,d14,o2:t1,w2", "p60,d4,o1:t0,w1,t1"), 0, 0, 2);
        mendedIs("three changes", three, -1, -3, -3, -3, -3);
        three.rule(0, 2);
        mendedIs("lending and ranks", three, 2, 2, 2, 0, 2);
        three.rule(1, 2);
        mendedIs("ranks", three, 1, 2, 2, 0, 2);
        three.rule(0, 0);
        mendedIs("rule and ranks", three, 2, 2, 2, 0, 2);
        // The order 2, 0, 1 is needed, which no two put for one another make of 0, 1, 2.
        OneKnife twice = Due.withTools(2, "p60,d4,o2:w2,t0", "p60,d8,o3:w1", "p60,d11,o1:t0,w3,t1");
        mendedIs("two changes of ranks", twice, -1, -3, -3, -3, -3);
        edges.is("there is an order", twice.best(0) * 100 + twice.best(1) * 10 + twice.best(2), 201);
        twice.set(0, 0, 9);
        twice.set(1, 0, 10);
        mendedIs("one is done", twice, 1, 0, 0, 1, 2);
    }

    private static void ofLikeOnes() {
        edges.says("of like ones RULE, then LENDING, then the first, then the second TASK compared (the least first; no change "
            + "of RANKS ahead of all); NONE.");
        OneKnife late = Due.with("p60,d9,o0:w4", "p60,d4,o0:w4");
        mendedIs("rule 0 by ranks ahead of rule 1", late, 1, 0, 0, 0, 1);
        late.rule(0, 2);
        mendedIs("rule 1, and no other one", late, 1, 1, 0, -1, -1);
        OneKnife lent = Due.withTools(1, "p40,d9,o1:t0,w1,g0", "p40,d40,o2:w9", "p40,d40,o0:t0,w5,g0,w1");
        mendedIs("lending 0 by ranks ahead of lending 1", lent, 1, 0, 0, 1, 2);
        OneKnife lending = Due.withTools(1, "p60,d6,o1:t0,w1,g0", "p60,d8,o2:w4", "p60,d60,o0:t0,w5,g0,w1");
        mendedIs("lending 1 ahead of lending 2", lending, 1, 0, 1, -1, -1);
        lending.rule(0, 2);
        mendedIs("rule 0 and lending 1 ahead of rule 1", lending, 2, 0, 1, -1, -1);
        // 2 must be first; with 0 or with 1 put for it, it is.
        OneKnife first = Due.with("p60,d60,o0:w1", "p60,d60,o0:w1", "p60,d1,o0:w1");
        mendedIs("the first task compared", first, 1, 0, 0, 0, 2);
        // 1 may not be behind 0; with 1 or with 2 put for it, it is not.
        OneKnife second = Due.with("p60,d60,o0:w3", "p60,d2,o0:w1", "p60,d60,o0:w1");
        mendedIs("the second task compared", second, 1, 0, 0, 0, 1);
        OneKnife gone = Due.with("p60,d60,o0:w1", "p60,d60,o0:w1", "p60,d1,o0:w1");
        gone.drop(0, true);
        mendedIs("of tasks that are", gone, 1, 0, 0, 1, 2);
        OneKnife like = Due.with("p60,d9,o0:w4", "p60,d4,o0:w4");
        like.set(1, 0, 10);
        mendedIs("like ranks put for one another change nothing", like, 1, 1, 0, -1, -1);
    }

    private static void mended() {
        edges.says("MENDED: 0 how many changes (NONE), 1 RULE, 2 LENDING, 3, 4 the TASKS whose RANKS are put for one another "
            + "(NONE: none). BAD; NOT (1 to 4): NONE.");
        OneKnife none = Due.with("p60,d1,o0:w2");
        edges.is("what -1", none.mended(-1), -2);
        mendedIs("none", none, -1, -3, -3, -3, -3);
        edges.is("what 5", none.mended(5), -2);
        OneKnife some = Due.with("p60,d60,o0:w2");
        edges.is("what -1", some.mended(-1), -2);
        mendedIs("no change", some, 0, 0, 0, -1, -1);
        edges.is("what 5", some.mended(5), -2);
        OneKnife late = Due.with("p60,d9,o0:w4", "p60,d4,o0:w4");
        edges.is("changes", late.mended(0), 1);
        edges.is("nothing is changed by it", late.about(0, 6) * 100 + late.about(1, 6), 1009);
        edges.is("nothing is changed by it", late.late(), 1);
    }
}
