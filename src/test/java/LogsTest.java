/** Promises 23 and 24: rules that a log can come from, and mending. */
public final class LogsTest {
    private static final Due due = new Due("LogsTest");

    public static void main(String[] args) {
        fits();
        fitsRefusals();
        mends();
        mendsByTwo();
        mendsRings();
        mendsNot();
        due.end();
    }

    private static void log(OneKnife knife, int type, int... items) {
        knife.sheet(0, type, items.length);
        for (int i = 0; i < items.length; i++) {
            knife.put(0, type, i, items[i]);
        }
    }

    private static void fits() {
        OneKnife knife = Due.with("p20,d12,o0:w2", "p20,d5,o1:w2");
        // By rank 0 0 1 1, by the nearest end 0 1 1 0, by turns 0 1 0 1.
        knife.rule(3, 10);
        log(knife, 0, 0, 0, 1, 1, -1);
        due.is("by rank", knife.fits(0), 7);
        log(knife, 1, 0, 1, 1, 0, -1);
        due.is("by end", knife.fits(0), 56);
        log(knife, 2, 0, 1, 0, 1, -1);
        due.is("by turns", knife.fits(0), 448);
        log(knife, 2, 0, 1);
        due.is("two of them", knife.fits(0), 504);
        log(knife, 2, 0, 8, 9, -2);
        due.is("not seen", knife.fits(0), 511);
        log(knife, 2, 0, 1, 2147483647, -2147483648, -1);
        due.is("not seen", knife.fits(0), 504);
        log(knife, 2, 7);
        due.is("another task", knife.fits(0), 0);
        log(knife, 2, -1);
        due.is("nobody", knife.fits(0), 0);
        log(knife, 2);
        due.is("an empty log", knife.fits(0), 511);
        log(knife, 2, 0, 0, 1, 1, -1, -1, -1, -1, -1, -1, 5, 5);
        due.is("as long as the run is", knife.fits(0), 7);
        due.is("the rule is as it was", knife.count(4), 0);
        due.is("the run is as it was", knife.who(1, 0), 0);
        OneKnife lends = Due.withTools(1, "p40,d40,o1:t0,w1,g0", "p40,d40,o2:w4", "p40,d40,o0:t0,w5,g0,w1");
        lends.sheet(1, 1, 60);
        due.is("write", lends.write(1), 60);
        due.is("not lent", lends.fits(1), 1);
        lends.rule(1, 1);
        lends.write(1);
        // By end all come in the same order, for what was there first is due first; there nothing need be lent.
        due.is("lent", lends.fits(1) & 7, 6);
    }

    private static void fitsRefusals() {
        OneKnife knife = new OneKnife();
        int[] no = {-2147483648, -1, 4, 2147483647};
        for (int s : no) {
            due.is("fits", knife.fits(s), -2);
        }
        due.is("bad is no finding", knife.count(8), 0);
        due.is("lost", knife.fits(3), -11);
        due.is("lost", knife.count(8), 1);
    }

    private static void mended(String what, OneKnife knife, int... want) {
        for (int i = 0; i < want.length; i++) {
            due.is(what + ": mended " + i, knife.mended(i), want[i]);
        }
    }

    private static void mends() {
        mended("nothing to mend", Due.with("p9,d9,o0:w1"), 0, 0, 0, -1, -1);
        mended("nobody there", new OneKnife(), 0, 0, 0, -1, -1);
        OneKnife asItIs = Due.with("p9,d9,o0:w1");
        asItIs.rule(0, 2);
        asItIs.rule(1, 1);
        mended("as it is", asItIs, 0, 2, 1, -1, -1);
        OneKnife knife = Due.with("p20,d9,o0:w4", "p20,d4,o0:w4");
        mended("ranks, for the rule is compared first", knife, 1, 0, 0, 0, 1);
        due.is("nothing is changed by it", knife.late(), 3);
        knife.rule(0, 2);
        mended("another rule, the least", knife, 1, 1, 0, -1, -1);
        OneKnife three = Due.with("p40,d40,o0:w3", "p40,d6,o0:w3", "p40,d3,o0:w3");
        mended("the first pair that serves", three, 1, 0, 0, 0, 2);
        three.set(0, 0, 8);
        three.set(1, 0, 9);
        three.set(2, 0, 1);
        // The order 1, 0, 2 is set and 2, 1, 0 is wanted: no two put for one another do.
        mended("another rule", three, 1, 1, 0, -1, -1);
        OneKnife lending = Due.withTools(1, "p40,d9,o1:t0,w1,g0", "p40,d40,o2:w9", "p40,d40,o0:t0,w5,g0,w1");
        mended("lending ahead of ranks there", lending, 1, 0, 0, 1, 2);
        lending.set(1, 0, 7);
        due.is("not needed", lending.mended(0), 0);
    }

    private static void mendsByTwo() {
        // By turns 0 is late, by end and by rank it is, too, if nothing is lent: 1 goes ahead of 2, for which 0 waits.
        OneKnife knife = Due.withTools(1, "p60,d6,o1:t0,w1,g0", "p60,d20,o2:w4", "p60,d60,o0:t0,w5,g0,w1");
        knife.rule(0, 2);
        due.is("late", knife.late(), 1);
        mended("rule and ranks, for lending is compared ahead of them", knife, 2, 0, 0, 1, 2);
        knife.wipe(1);
        Due.type(knife, 1, "p60,d8,o2:w4");
        mended("rule and lending, for 1 may not be behind 2", knife, 2, 0, 1, -1, -1);
        knife.rule(0, 0);
        mended("lending", knife, 1, 0, 1, -1, -1);
        knife.rule(0, 1);
        mended("lending by end", knife, 1, 1, 1, -1, -1);
        knife.rule(1, 2);
        mended("nothing", knife, 0, 1, 2, -1, -1);
        OneKnife turned = Due.with("p60,d9,o0:w4", "p60,d4,o0:w4");
        turned.rule(0, 2);
        turned.rule(1, 2);
        mended("what need not be changed is not", turned, 1, 1, 2, -1, -1);
    }

    private static void mendsRings() {
        OneKnife knife = Due.withTools(2, "p60,d98,o1:t0,w2,t1,w1", "p60,d98,o0:t1,w2,t0,w1");
        due.is("nothing is late", knife.late(), 0);
        due.is("but there is a ring", knife.ring(1), 3);
        mended("a ring", knife, 1, 0, 0, 0, 1);
        knife.set(1, 0, 10);
        due.is("like ranks, a ring", knife.ring(1), 3);
        mended("upward", knife, 1, 0, 2, -1, -1);
    }

    private static void mendsNot() {
        OneKnife knife = Due.with("p9,d1,o0:w2");
        due.is("none", knife.mended(0), -1);
        for (int what = 1; what <= 4; what++) {
            due.is("not", knife.mended(what), -3);
        }
        int[] bad = {-2147483648, -1, 5, 2147483647};
        for (int what : bad) {
            due.is("bad", knife.mended(what), -2);
        }
    }
}
