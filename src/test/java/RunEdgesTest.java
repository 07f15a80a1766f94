/** Part 2 of the terms and promises 10 to 16, sentence by sentence, just inside and just outside of each edge. */
public final class RunEdgesTest {
    private static final Edges edges = new Edges("RunEdgesTest");
    private static final String W1 = "p60,d60,o0:w1";
    private static final String W3 = "p60,d60,o0:w3";

    public static void main(String[] args) {
        byRank();
        byEnd();
        byTurns();
        keys();
        lending();
        lendingIsOfTheTick();
        upward();
        handsAndTicks();
        coming();
        beginning();
        whoGoes();
        takingAndGiving();
        waiting();
        doneInChoosing();
        endOfTick();
        responses();
        late();
        rings();
        noRings();
        asking();
        told();
        toldOfLesserRanks();
        edges.end();
    }

    private static void first(String what, OneKnife knife, String want) {
        edges.is(what + ": first", Due.chosen(knife, 0, want.length()), want);
    }

    private static void second(String what, OneKnife knife, String want) {
        edges.is(what + ": second", Due.chosen(knife, 1, want.length()), want);
    }

    private static void states(String what, OneKnife knife, int task, String want) {
        edges.is(what + ": states of " + task, Due.states(knife, task, want.length()), want);
    }

    private static void byRank() {
        edges.says("RULE: 0 by RANK (the greater)");
        OneKnife knife = Due.with(W1, W1);
        int[][] ranks = {{10, 9, 0}, {10, 10, 0}, {10, 11, 1}, {0, 0, 0}, {0, 1, 1}, {1, 0, 0}, {98, 99, 1}, {99, 98, 0}};
        for (int[] r : ranks) {
            knife.set(0, 0, r[0]);
            knife.set(1, 0, r[1]);
            first("ranks " + r[0] + " " + r[1], knife, r[2] == 0 ? "01-" : "10-");
        }

        edges.says("of like ones the least number. KEY of a TASK");
        OneKnife like = new OneKnife();
        for (int task : new int[] {7, 5, 3}) {
            Due.type(like, task, W1);
            like.set(task, 0, 50);
        }
        for (int rule = 0; rule < 3; rule++) {
            like.rule(0, rule);
            first("rule " + rule, like, "357-");
        }
    }

    private static void byEnd() {
        edges.says("1 by the nearest end (the least TICK by which the JOB is due)");
        String[] dues = {"d3", "d4", "d5"};
        String[] want = {"0100-", "0001-", "0001-"};
        for (int i = 0; i < 3; i++) {
            OneKnife knife = Due.with("p60,d5,o0:w3", "p60," + dues[i] + ",o1:w1");
            knife.rule(0, 1);
            first("due at 5 and " + dues[i] + " from 1 on", knife, want[i]);
            knife.set(1, 0, 99);
            first("whatever its rank is", knife, want[i]);
        }
    }

    private static void byTurns() {
        edges.says("2 by turns (who worked longest ago; who never did ahead of all);");
        OneKnife knife = Due.with(W3, W3, "p60,d60,o2:w1");
        knife.rule(0, 2);
        first("one hand", knife, "0120101-");
        OneKnife two = Due.by(Due.with(W3, W3, W3), 2, 0, 2);
        first("two hands, who worked in the same tick", two, "02122-");
        second("two hands, who worked in the same tick", two, "1001--");
        OneKnife late = Due.with("p60,d60,o0:w2", "p60,d60,o1:w2");
        late.rule(0, 2);
        first("never is ahead of long ago", late, "0101-");
    }

    private static void keys() {
        edges.says("(the less the better): by RULE 0 RANK turned over, by 1 the TICK its JOB is due.");
        // 7 has a fire, is asked first on tick 1 and waits for 0: a lesser rank, or a later end, is not lent.
        OneKnife knife = Due.by(new OneKnife(), 0, 1, 2);
        knife.thing(2, 1);
        knife.thing(0, 1);
        Due.type(knife, 0, "p60,d60,o0:t1,w3");
        Due.type(knife, 1, "p60,d60,o1:w2");
        Due.type(knife, 7, "p60,d99,o0:t0,w1,t1,w1");
        for (int rule = 0; rule < 2; rule++) {
            knife.rule(0, rule);
            first("rule " + rule, knife, "0007-");
            second("rule " + rule, knife, "711--");
        }
    }

    /** 0 waits for 2, and 1 is between them. */
    private static OneKnife between(int rule, int lending) {
        return Due.by(Due.withTools(1, "p60,d9,o1:t0,w1", "p60,d20,o1:w2", "p60,d50,o0:t0,w3"), rule, lending, 1);
    }

    private static void lending() {
        edges.says("LENDING: 0 none, 1: a KEY IN FORCE is the least of its own and of KEYS IN FORCE of all that WAIT for it "
            + "(RULE 0, 1), 2: likewise");
        for (int rule = 0; rule < 2; rule++) {
            first("none is lent by rule " + rule, between(rule, 0), "211220-");
            first("lent by rule " + rule, between(rule, 1), "222011-");
            first("likewise by rule " + rule, between(rule, 2), "222011-");
        }
        for (int lending = 0; lending < 3; lending++) {
            first("by turns none is lent", between(2, lending), "212120-");
        }
        // 0 waits for 2, which waits for 3.
        OneKnife row = Due.withTools(2, "p60,d60,o2:t0,w1", "p60,d60,o2:w2", "p60,d60,o1:t0,w1,t1,w1", "p60,d60,o0:t1,w3");
        row.rule(1, 1);
        first("through one that waits", row, "32332011-");
        row.rule(1, 0);
        first("through one that waits, not lent", row, "32113320-");
    }

    private static void lendingIsOfTheTick() {
        edges.says("of all that WAIT for it");
        // 0 waited for 2 on tick 1. On tick 3 only 3 waits, for nobody, and 1 is ahead of 2 again.
        OneKnife knife = Due.withTools(2, "p60,d60,o1:t0,w1", "p60,d60,o1:w2", "p60,d60,o0:t0,w2,g0,w2", "p60,d60,o3:t1,w1");
        knife.broken(1, 3, 10);
        knife.set(3, 0, 50);
        knife.rule(1, 1);
        first("who waited once lends no longer", knife, "2201122----3");
        // 3 waited for 1 on tick 1. On tick 2 0 waits for nobody, ahead of 3: 1 is not lent the rank of 3 then.
        OneKnife ahead = Due.withTools(2, "p60,d60,o2:t1,w1", "p60,d60,o0:t0,w2,g0,w2", "", "p60,d60,o1:t0,w1");
        ahead.broken(1, 2, 10);
        ahead.set(0, 0, 50);
        ahead.set(1, 0, 5);
        ahead.set(3, 0, 20);
        ahead.rule(1, 1);
        first("who waited once, and is not asked yet, does not lend", ahead, "11311------0");
    }

    /** What the state of 1 is on tick 1, when it would take a tool, 5 has another one, and 7 would take that far behind. */
    private static int upwardState(int lending, int rankOf1, int rankOf7) {
        OneKnife knife = Due.by(Due.withTools(2), 0, lending, 2);
        Due.type(knife, 1, "p60,d60,o1:t1,w1");
        Due.type(knife, 5, "p60,d60,o0:t0,w4");
        Due.type(knife, 7, "p60,d60,o50:t0,w1");
        knife.set(1, 0, rankOf1);
        knife.set(7, 0, Math.max(0, rankOf7));
        knife.drop(7, rankOf7 < 0);
        return knife.state(1, 1);
    }

    private static void upward() {
        edges.says("and UPWARD: a TASK may take a THING only while each THING that another TASK has is taken, by texts of "
            + "TASKS that ARE, by none but those of lesser RANK than it.");
        edges.is("a greater rank than the one that has it", upwardState(2, 6, 0), 1);
        edges.is("a like one", upwardState(2, 5, 0), 2);
        edges.is("a lesser one", upwardState(2, 4, 0), 2);
        edges.is("of lending 1", upwardState(1, 4, 0), 1);
        edges.is("a greater rank than the other one that would take it", upwardState(2, 6, 5), 1);
        edges.is("a like one", upwardState(2, 6, 6), 2);
        edges.is("a lesser one", upwardState(2, 6, 7), 2);
        edges.is("the other one is dropped", upwardState(2, 6, -1), 1);
        OneKnife own = Due.by(Due.withTools(2, "p60,d60,o0:t0,w1,t1,w1"), 0, 2, 1);
        edges.is("its own things do not bar it", own.done(0, 0), 2);
        OneKnife itself = Due.by(Due.withTools(2, "p60,d60,o1:t1,w1,t0,w1", "p60,d60,o1:w2", "p60,d60,o0:t0,w3"), 0, 2, 1);
        first("its own text takes what another one has", itself, "2220011-");
        itself.rule(1, 1);
        first("likewise, not upward", itself, "2022011-");
    }

    private static void handsAndTicks() {
        edges.says("HANDS 1 to 3 (1 at first), TICKS of a RUN 1 to 120 (60 at first).");
        OneKnife knife = Due.with(W1, W1, W1, W1);
        edges.is("hands at first", knife.count(6), 1);
        edges.is("ticks at first", knife.count(7), 60);
        edges.is("no hand", knife.rule(2, 0), -2);
        edges.is("four hands", knife.rule(2, 4), -2);
        for (int hands = 1; hands <= 3; hands++) {
            edges.is("hands", knife.rule(2, hands), Math.max(1, hands - 1));
            edges.is("the last hand", knife.who(0, hands - 1), hands - 1);
            edges.is("one more", knife.who(0, hands), -2);
            edges.is("at work", Due.chosen(knife, 0, 3), new String[] {"012", "02-", "03-"}[hands - 1]);
        }
        edges.is("no tick", knife.rule(3, 0), -2);
        edges.is("121 ticks", knife.rule(3, 121), -2);
        edges.is("59 is a tick", knife.who(59, 0), -1);
        edges.is("60 is none", knife.who(60, 0), -2);
        edges.is("one tick", knife.rule(3, 1), 60);
        edges.is("0 is a tick", knife.who(0, 0), 0);
        edges.is("1 is none", knife.who(1, 0), -2);
        edges.is("120 ticks", knife.rule(3, 120), 1);
        edges.is("119 is a tick", knife.who(119, 0), -1);
        edges.is("120 is none", knife.who(120, 0), -2);

        edges.says("RULE and LENDING are 0 at first.");
        edges.is("rule", new OneKnife().count(4), 0);
        edges.is("lending", new OneKnife().count(5), 0);

        edges.says("RULE (what = 0), LENDING (1), HANDS (2), TICKS (3): what it was. BAD.");
        for (int what = 0; what < 2; what++) {
            edges.is("-1", knife.rule(what, -1), -2);
            edges.is("3", knife.rule(what, 3), -2);
            edges.is("2", knife.rule(what, 2), 0);
            edges.is("0", knife.rule(what, 0), 2);
            edges.is("0 again", knife.rule(what, 0), 0);
        }
        edges.is("what -1", knife.rule(-1, 1), -2);
        edges.is("what 4", knife.rule(4, 1), -2);
        edges.is("hands", knife.rule(2, 3), 3);
        edges.is("ticks", knife.rule(3, 120), 120);
    }

    private static int cameIn(String text, int ticks) {
        OneKnife knife = Due.with(text);
        knife.rule(3, ticks);
        return knife.told(0, 0);
    }

    private static void coming() {
        edges.says("RUN, TICK by TICK (t from 0): First a JOB comes of each TASK that IS, if t is BEGINNING, and SPAN after "
            + "SPAN behind it;");
        int[][] came = {{3, 0}, {4, 1}, {10, 1}, {11, 2}, {115, 16}, {116, 17}, {120, 17}};
        for (int[] c : came) {
            edges.is("span 7 from 3 on, in " + c[0], cameIn("p7,d9,o3:w1", c[0]), c[1]);
        }
        edges.is("span 1 in 1", cameIn("p1,d1,o0:w1", 1), 1);
        edges.is("span 1 in 120", cameIn("p1,d1,o0:w1", 120), 120);
        edges.is("from 99 on, in 99", cameIn("p60,d60,o99:w1", 99), 0);
        edges.is("from 99 on, in 100", cameIn("p60,d60,o99:w1", 100), 1);
        edges.is("span 60 from 59 on, in 119", cameIn("p60,d60,o59:w1", 119), 1);
        edges.is("span 60 from 59 on, in 120", cameIn("p60,d60,o59:w1", 120), 2);
        OneKnife knife = Due.with("p7,d9,o3:w1");
        states("at its beginning, and a span behind it", knife, 0, "000100000010");
        knife.drop(0, true);
        states("of none that is not", knife, 0, "000000");

        edges.says("it is due DUE TICKS later.");
        for (int d = 2; d <= 4; d++) {
            OneKnife due = Due.with("p60,d" + d + ",o5:w3");
            edges.is("three ticks of work, due " + d + " later", due.late(), d < 3 ? 1 : 0);
        }
        OneKnife never = Due.withTools(1, "p60,d99,o0:t0,w1");
        never.broken(0, 0, 119);
        never.rule(3, 98);
        edges.is("due behind the end", never.late(), 0);
        never.rule(3, 99);
        edges.is("due at the end", never.late(), 1);
    }

    private static void beginning() {
        edges.says("A TASK without a JOB that goes on begins with its first one that has come (at STEP 0); others wait behind "
            + "it.");
        OneKnife knife = Due.with("p2,d99,o0:w2,w1");
        knife.rule(3, 9);
        states("one job after the other", knife, 0, "111111111");
        int[] done = {3, 6, 9, -1, -1};
        for (int i = 0; i < done.length; i++) {
            edges.is("done " + i, knife.done(0, i), done[i]);
        }
        OneKnife again = Due.by(Due.withTools(1, "p3,d99,o0:t0,w2,g0,w1", "p3,d99,o1:t0,w1"), 0, 0, 2);
        states("each job from its first step on", again, 0, "111111");
        states("each job from its first step on", again, 1, "021021");
    }

    private static void whoGoes() {
        edges.says("Then, as often as there are HANDS: of TASKS with a JOB that goes on, not at work in this TICK and not "
            + "WAITING in it: those that have a FIRE first, then the least KEY IN FORCE (RULE 2: by turns), of like ones the "
            + "least number.");
        OneKnife one = Due.by(Due.with(W1), 0, 0, 3);
        first("one task", one, "0-");
        second("one task has one hand", one, "--");
        OneKnife waits = Due.by(Due.withTools(1, "p60,d60,o0:t0,w1", W1, W1), 0, 0, 2);
        waits.broken(0, 0, 0);
        first("who waits is not asked by another hand", waits, "10-");
        second("who waits is not asked by another hand", waits, "2--");
        OneKnife fire = Due.withThing(2, 1, "p60,d9,o1:w2", "p60,d50,o0:t0,w3");
        for (int rule = 0; rule < 3; rule++) {
            fire.rule(0, rule);
            first("a fire, by rule " + rule, fire, "11100-");
        }
        OneKnife fires = Due.by(new OneKnife(), 0, 0, 2);
        fires.thing(2, 1);
        fires.thing(2, 1);
        Due.typeAll(fires, "p60,d60,o1:w1", "p60,d60,o0:t0,w3", "p60,d50,o0:t1,w3");
        states("two fires ahead of it", fires, 0, "03310");
        first("of two fires the greater rank", fires, "1110-");
        fires.set(2, 0, 9);
        first("of two fires with like ranks the least number", fires, "1110-");
        fires.set(2, 0, 99);
        first("of two fires the greater rank", fires, "2220-");
        fires.set(2, 0, 0);
        fires.rule(0, 1);
        first("of two fires the nearest end", fires, "2220-");
    }

    private static void takingAndGiving() {
        edges.says("It does STEPS that are t and g, one after the other, as they stand;");
        String other = "p60,d60,o0:t0,w1";
        states("given back at once", Due.by(Due.withTools(1, "p60,d60,o0:t0,g0,w2", other), 0, 0, 2), 1, "10");
        states("given back behind its work", Due.by(Due.withTools(1, "p60,d60,o0:t0,w2,g0", other), 0, 0, 2), 1, "2210");
        states("taken again", Due.by(Due.withTools(1, "p60,d60,o0:t0,g0,t0,w2", other), 0, 0, 2), 1, "2210");
        OneKnife two = Due.by(Due.withTools(2, "p60,d60,o0:t0,t1,g0,w2", other, "p60,d60,o0:t1,w1"), 0, 0, 3);
        states("one of two given back", two, 1, "10");
        states("the other one kept", two, 2, "2210");
    }

    /** 2 has one of two scales; 0, which comes at 1, may have the other one behind a tick. */
    private static OneKnife scaleLeft(int till) {
        OneKnife knife = Due.withThing(1, 2, "p60,d60,o1:t0,w1", "p60,d60,o1:w2", "p60,d60,o0:t0,w4");
        knife.rule(1, 1);
        knife.broken(0, 1, till);
        return knife;
    }

    private static void waiting() {
        edges.says("at a t that it may not do (BROKEN, as many have it as may, UPWARD) it WAITS in this TICK");
        OneKnife keeps = Due.by(Due.withTools(2, "p60,d60,o1:t0,t1,w1", "p60,d60,o0:t1,w3", "p60,d60,o2:t0,w1"), 0, 0, 3);
        states("what it has it keeps", keeps, 0, "02210");
        states("what it has it keeps", keeps, 2, "002210");
        edges.is("at work in the tick it may", keeps.told(0, 5), 2);

        edges.says("(for all other TASKS that have that THING, if as many have it as may, and by UPWARD for those that have a "
            + "THING by which it may not)");
        OneKnife scale = Due.withThing(1, 2, "p60,d60,o1:t0,w1", "p60,d60,o1:w2", "p60,d60,o1:w2", "p60,d60,o0:t0,w3", "p60,d60,o0:t0,w3");
        scale.rule(2, 2);
        first("two have it, none is lent", scale, "311330-");
        second("two have it, none is lent", scale, "42244--");
        scale.rule(1, 1);
        first("two have it, lent to both", scale, "333012-");
        second("two have it, lent to both", scale, "44412--");
        first("one is left: it may take it", scaleLeft(0), "2011222-");
        first("one is left, but broken: for nobody", scaleLeft(9), "211222----0");
        OneKnife both = between(0, 1);
        both.broken(0, 1, 9);
        first("broken, and taken: for the one that has it", both, "22211-----0");

        edges.says("and another one is looked for; at a w it is at WORK for this TICK.");
        OneKnife next = Due.withTools(1, "p60,d60,o0:t0,w1", W3);
        next.broken(0, 0, 1);
        first("another one", next, "1101-");
        states("it waits", next, 0, "2210");
        states("put aside behind its work", next, 1, "1131");
    }

    private static void doneInChoosing() {
        edges.says("(If its STEPS end so, its JOB is done at t, and another one is looked for; the TASK begins no other one in "
            + "this TICK.)");
        OneKnife knife = Due.withTools(1, "p4,d20,o0:w1,t0", "p60,d60,o0:w5");
        knife.broken(0, 0, 3);
        first("another one", knife, "0111101-");
        states("no other one in the tick", knife, 0, "12220100");
        edges.is("done at t", knife.done(0, 0), 4);
        edges.is("begun the tick behind", knife.done(0, 1), 6);
        OneKnife due = Due.withTools(1, "p60,d1,o0:w1,t0", "p60,d60,o5:t0,w1");
        edges.is("done at t as it is due", due.late(), 0);
        due.broken(0, 1, 1);
        edges.is("done a tick behind it", due.late(), 1);
        OneKnife frees = Due.withTools(1, "p60,d60,o0:w1,t0", "p60,d60,o1:t0,w1");
        first("what it has is free in that tick", frees, "01-");
    }

    private static void endOfTick() {
        edges.says("At the end of the TICK each one at WORK has done a TICK of its STEP;");
        OneKnife knife = Due.by(Due.with(W1, W3, "p60,d60,o0:w9"), 0, 0, 3);
        int[] done = {1, 3, 9};
        for (int i = 0; i < 3; i++) {
            edges.is("done", knife.done(i, 0), done[i]);
        }

        edges.says("if that is whole, it does what is g behind it, one after the other;");
        String takes0 = "p60,d60,o1:t0,w1";
        String takes1 = "p60,d60,o1:t1,w1";
        OneKnife both = Due.by(Due.withTools(2, "p60,d60,o0:t0,t1,w1,g0,g1,w1", takes0, takes1), 0, 0, 3);
        states("both given back", both, 1, "010");
        states("both given back", both, 2, "010");
        OneKnife one = Due.by(Due.withTools(2, "p60,d60,o0:t0,t1,w1,g0,w1,g1", takes0, takes1), 0, 0, 3);
        states("the first given back", one, 1, "010");
        states("the second behind more work", one, 2, "0210");
        OneKnife notWhole = Due.by(Due.withTools(1, "p60,d60,o0:t0,w2,g0,w1", takes0), 0, 0, 3);
        states("its step is not whole", notWhole, 1, "0210");
        first("a t behind it is not done then", Due.withTools(1, takes0, "p60,d60,o0:t0,w1,g0,t0,w1"), "101-");

        edges.says("if its STEPS end so, its JOB is DONE at t and 1.");
        edges.is("at the first tick", Due.with(W1).done(0, 0), 1);
        OneKnife last = Due.with("p60,d60,o59:w1");
        edges.is("at the last tick", last.done(0, 0), 60);
        last.rule(3, 59);
        edges.is("behind it", last.done(0, 0), -1);
        OneKnife gives = Due.withTools(1, "p60,d60,o0:t0,w1,g0");
        edges.is("with a g at its end", gives.done(0, 0), 1);
        states("with a g at its end", gives, 0, "10");
    }

    private static void responses() {
        edges.says("RESPONSE of a JOB that is DONE: DONE less the TICK it came.");
        edges.is("it came at 5", Due.with("p60,d60,o5:w1").told(0, 3), 1);
        OneKnife row = Due.with("p2,d99,o0:w3");
        row.rule(3, 9);
        edges.is("the third one waited behind others", row.told(0, 3), 5);
        row.rule(3, 8);
        edges.is("the third one is not done", row.told(0, 3), 4);
        row.rule(3, 3);
        edges.is("the first one is done", row.told(0, 3), 3);
        row.rule(3, 2);
        edges.is("none is done", row.told(0, 3), -1);
    }

    private static int lateIn(String text, int ticks) {
        OneKnife knife = Due.with(text);
        knife.rule(3, ticks);
        edges.is("told 2 of '" + text + "'", knife.told(0, 2), knife.late());
        return knife.late();
    }

    private static void late() {
        edges.says("LATE are JOBS that are DONE behind the TICK they are due, and those not DONE in the RUN that were due at "
            + "its end (TICKS) or before it.");
        edges.is("done ahead of it", lateIn("p60,d4,o0:w3", 60), 0);
        edges.is("done as it is due", lateIn("p60,d3,o0:w3", 60), 0);
        edges.is("done behind it", lateIn("p60,d2,o0:w3", 60), 1);
        edges.is("not done, due behind the end", lateIn("p60,d5,o0:w9", 4), 0);
        edges.is("not done, due at the end", lateIn("p60,d5,o0:w9", 5), 1);
        edges.is("not done, due ahead of the end", lateIn("p60,d5,o0:w9", 6), 1);
        edges.is("done at the end, as it is due", lateIn("p60,d5,o0:w5", 5), 0);
        edges.is("done at the end, behind it", lateIn("p60,d4,o0:w5", 5), 1);
        edges.is("those that wait, due behind the end", lateIn("p2,d2,o0:w3", 7), 3);
        edges.is("those that wait, due at the end", lateIn("p2,d2,o0:w3", 8), 4);

        edges.says("How many JOBS are LATE of all.");
        OneKnife knife = new OneKnife();
        edges.is("none there", knife.late(), 0);
        Due.type(knife, 0, "p30,d1,o0:w2");
        edges.is("of task 0", knife.late(), 2);
        Due.type(knife, 7, "p60,d3,o0:w2");
        edges.is("of task 0 and 7", knife.late(), 3);
        knife.drop(0, true);
        edges.is("of task 7", knife.late(), 0);
    }

    private static void ringIs(String what, OneKnife knife, int tick, int bits) {
        edges.is(what + ": tick", knife.ring(0), tick);
        edges.is(what + ": bits", knife.ring(1), bits);
    }

    private static void rings() {
        edges.says("RING: the first TICK in which TASKS WAIT for one another in a ring, as bits those that can be come to from "
            + "themselves by waiting.");
        String a = "p60,d60,o0:t0,w1,t1,w1";
        String b = "p60,d60,o0:t1,w1,t0,w1";
        OneKnife two = Due.by(Due.withTools(2, a, b), 0, 0, 2);
        ringIs("two", two, 1, 3);
        two.rule(3, 2);
        ringIs("in the last tick", two, 1, 3);
        two.rule(3, 1);
        ringIs("behind the last tick", two, -1, 0);
        ringIs("one that waits for the ring", Due.by(Due.withTools(2, a, b, "p60,d60,o1:t0,w1"), 0, 0, 3), 1, 3);
        ringIs("three", Due.by(Due.withTools(3, a, "p60,d60,o0:t1,w1,t2,w1", "p60,d60,o0:t2,w1,t0,w1"), 0, 0, 3), 1, 7);
        OneKnife later = Due.by(Due.withTools(4, a, b, "p60,d60,o5:t2,w1,t3,w1", "p60,d60,o5:t3,w1,t2,w1"), 0, 0, 2);
        ringIs("a second ring later", later, 1, 3);
        later.drop(0, true);
        ringIs("the second ring alone", later, 6, 12);
        // All four wait for thing 4, till it is broken no longer; then both rings close.
        OneKnife both = Due.by(Due.withTools(5, "p60,d60,o0:t0,w1,t4,g4,t1,w1", "p60,d60,o0:t1,w1,t4,g4,t0,w1",
            "p60,d60,o0:t2,w1,t4,g4,t3,w1", "p60,d60,o0:t3,w1,t4,g4,t2,w1"), 0, 0, 2);
        both.broken(4, 0, 9);
        ringIs("two rings in a tick", both, 10, 15);
        both.rule(3, 10);
        ringIs("all wait, for nobody", both, -1, 0);
        OneKnife high = Due.by(Due.withTools(2), 0, 0, 2);
        Due.type(high, 6, a);
        Due.type(high, 7, b);
        ringIs("the last tasks", high, 1, 192);

        edges.says("RING: the TICK (what = 0; NONE), who is in it as bits (1; 0). BAD.");
        edges.is("what -1", two.ring(-1), -2);
        edges.is("what 2", two.ring(2), -2);
        ringIs("none", Due.with(W1), -1, 0);
    }

    private static void noRings() {
        edges.says("TASKS WAIT for one another in a ring");
        OneKnife row = Due.by(Due.withTools(2, "p60,d60,o2:t0,w1", "p60,d60,o0:t0,w1,t1,w1", "p60,d60,o0:t1,w5"), 0, 0, 2);
        states("0 waits for 1", row, 0, "0022221");
        states("1 waits for 2", row, 1, "122221");
        ringIs("a row whose last one works", row, -1, 0);
        // On tick 3 1 and 2 wait for 0, which waited for 1 on tick 1.
        OneKnife once = Due.by(Due.withTools(2, "p60,d60,o1:t0,t1,w3", "p60,d60,o0:t0,w2,g0,t1,w1", "p60,d60,o3:t0,w1"), 0, 0, 2);
        states("it waited once", once, 0, "021110");
        states("it waits now", once, 1, "112221");
        states("another one that waits", once, 2, "000221");
        ringIs("who waited once waits no longer", once, -1, 0);
        // 3 waits for 4 on tick 1 and is put aside on 2 and 3, while 4 waits for it: the ring closes on tick 4.
        OneKnife aside = new OneKnife();
        aside.thing(2, 1);
        aside.thing(0, 1);
        aside.thing(0, 1);
        aside.thing(0, 1);
        aside.broken(3, 2, 9);
        Due.typeAll(aside, "p60,d60,o2:t3,w1", "p60,d60,o2:w2", "p60,d60,o2:w2", "p60,d60,o0:t1,w1,t2,w1", "p60,d60,o0:t0,t2,w2,t1,w1");
        for (int i = 0; i < 3; i++) {
            aside.set(i, 0, 50 - i);
        }
        aside.rule(2, 2);
        states("it waits, is put aside, waits", aside, 3, "123322");
        states("it waits for the one that is put aside", aside, 4, "112222");
        ringIs("who is put aside does not wait", aside, 4, 24);
    }

    private static void asking() {
        edges.says("The TASK that is the n-th (0 on) to be chosen for WORK in a TICK; NONE. BAD: TICKS and more; HANDS and "
            + "more.");
        OneKnife knife = Due.by(Due.with(W1, W1, W1), 0, 0, 3);
        for (int n = 0; n < 3; n++) {
            edges.is("n " + n, knife.who(0, n), n);
            edges.is("nobody, n " + n, knife.who(1, n), -1);
        }
        edges.is("n -1", knife.who(0, -1), -2);
        edges.is("n 3", knife.who(0, 3), -2);
        edges.is("tick -1", knife.who(-1, 0), -2);
        edges.is("tick 59", knife.who(59, 2), -1);
        edges.is("tick 60", knife.who(60, 0), -2);
        knife.rule(2, 2);
        edges.is("two hands, n 1", knife.who(0, 1), 1);
        edges.is("two hands, n 2", knife.who(0, 2), -2);

        edges.says("In a TICK a TASK has no JOB (0), is at WORK (1), WAITS (2), is put aside (3); as it was when all were "
            + "chosen (0: its JOB was done in choosing). BAD.");
        OneKnife all = Due.withTools(1, "p60,d60,o0:t0,w1", "p60,d60,o1:w2", W3, "p60,d60,o7:w1,t0");
        all.broken(0, 0, 1);
        states("waits, at work", all, 0, "2210");
        states("no job, at work, put aside", all, 1, "01310");
        states("at work, put aside", all, 2, "1333110");
        states("done in choosing", all, 3, "000000010");
        edges.is("done in choosing", all.done(3, 0), 8);
        edges.is("tick -1", all.state(0, -1), -2);
        edges.is("tick 0", all.state(0, 0), 2);
        edges.is("tick 59", all.state(0, 59), 0);
        edges.is("tick 60", all.state(0, 60), -2);
        edges.is("task -1", all.state(-1, 0), -2);
        edges.is("task 7", all.state(7, 0), 0);
        edges.is("task 8", all.state(8, 0), -2);

        edges.says("The TICK at which JOB i (from 0) of a TASK was DONE; NONE. BAD: also i below 0.");
        OneKnife many = Due.with("p1,d1,o0:w1");
        many.rule(3, 120);
        edges.is("i -1", many.done(0, -1), -2);
        edges.is("i 0", many.done(0, 0), 1);
        edges.is("i 119", many.done(0, 119), 120);
        edges.is("i 120", many.done(0, 120), -1);
        edges.is("i far behind", many.done(0, 2147483647), -1);
        edges.is("task -1", many.done(-1, 0), -2);
        edges.is("task 7", many.done(7, 0), -1);
        edges.is("task 8", many.done(8, 0), -2);
    }

    private static void told() {
        edges.says("Of a TASK: 0 JOBS that came, 1 DONE ones, 2 LATE ones, 3 the longest RESPONSE (NONE), 4 TICKS at WORK, 5 "
            + "TICKS in which it WAITS, 6 TICKS in which it is put aside or WAITS while a TASK of lesser RANK is at WORK. "
            + "BAD.");
        OneKnife knife = Due.withTools(1, "p5,d4,o0:t0,w2", "p60,d60,o0:w9");
        knife.broken(0, 0, 2);
        knife.rule(3, 12);
        // Its jobs come at 0, 5, 10; it waits on 0, 1, 2 and works on 3, 4, 5, 6, 10, 11.
        int[] want = {3, 3, 1, 5, 6, 3, 3};
        for (int what = 0; what < 7; what++) {
            edges.is("told " + what, knife.told(0, what), want[what]);
        }
        int[] other = {1, 0, 0, -1, 6, 0, 0};
        for (int what = 0; what < 7; what++) {
            edges.is("told of another " + what, knife.told(1, what), other[what]);
        }
        edges.is("what -1", knife.told(0, -1), -2);
        edges.is("what 7", knife.told(0, 7), -2);
        edges.is("task -1", knife.told(-1, 0), -2);
        edges.is("task 7", knife.told(7, 0), 0);
        edges.is("task 8", knife.told(8, 0), -2);
    }

    /** A task that waits for a broken tool on ticks 0 and 1, while another one works: how many of them are told as 6. */
    private static int behind(int waits, int works, int difference) {
        OneKnife knife = Due.withTools(1);
        knife.broken(0, 0, 1);
        Due.type(knife, waits, "p60,d60,o0:t0,w1");
        Due.type(knife, works, "p60,d60,o0:w2");
        knife.set(waits, 0, 50);
        knife.set(works, 0, 50 + difference);
        knife.rule(3, 2);
        return knife.told(waits, 6);
    }

    private static void toldOfLesserRanks() {
        edges.says("6 TICKS in which it is put aside or WAITS while a TASK of lesser RANK is at WORK.");
        edges.is("a lesser rank", behind(0, 7, -1), 2);
        edges.is("a like rank", behind(0, 7, 0), 0);
        edges.is("a greater rank", behind(0, 7, 1), 0);
        edges.is("a lesser rank", behind(7, 0, -1), 2);
        edges.is("a like rank", behind(7, 0, 0), 0);
        edges.is("a greater rank", behind(7, 0, 1), 0);
        OneKnife aside = Due.with("p60,d60,o0:w2", "p60,d5,o0:w2");
        aside.rule(0, 1);
        edges.is("put aside", aside.told(0, 6), 2);
        edges.is("no job while a lesser rank works", Due.with("p60,d60,o2:w1", "p60,d60,o0:w2").told(0, 6), 0);
        OneKnife atWork = Due.by(Due.with(W1, W1), 0, 0, 2);
        edges.is("at work beside a lesser rank", atWork.told(0, 6), 0);
    }
}
