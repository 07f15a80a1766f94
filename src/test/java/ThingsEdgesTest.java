/** Part 1 of the terms and promises 1 to 10, sentence by sentence, just inside and just outside of each edge. */
public final class ThingsEdgesTest {
    private static final Edges edges = new Edges("ThingsEdgesTest");
    private static final String SIX = "t0,t1,t2,t3,t4,t5,w1";

    public static void main(String[] args) {
        newObject();
        things();
        scales();
        fires();
        broken();
        ranksAndWorths();
        lengths();
        numbers();
        order();
        steps();
        faults();
        everyByte();
        stepsWithoutWork();
        whichTasksAre();
        workAndForgotten();
        promises();
        edges.end();
    }

    /** A text of a task, where only its steps matter. */
    private static String text(String steps) {
        return "p5,d1,o0:" + steps;
    }

    private static void fault(int tools, String text, int want) {
        edges.is("fault of '" + text + "' with " + tools + " things", Due.withTools(tools, text).fault(0), want);
    }

    private static void newObject() {
        edges.says("`OneKnife()`: No THINGS, empty texts; all SHEETS are LOST.");
        OneKnife other = Due.withTools(1, text("w1"));
        other.sheet(0, 0, 1);
        other.rule(3, 7);
        OneKnife knife = new OneKnife();
        edges.is("things", knife.count(0), 0);
        edges.is("no thing 0", knife.broken(0, 0, 0), -2);
        for (int i = 0; i < 8; i++) {
            edges.is("fault " + i, knife.fault(i), 0);
            edges.is("wipe " + i, knife.wipe(i), 0);
        }
        for (int s = 0; s < 4; s++) {
            edges.is("lose " + s, knife.lose(s), -11);
        }
        edges.is("another object is as it was", other.count(0), 1);
        edges.is("another object is as it was", other.lose(0), 1);
    }

    private static void things() {
        edges.says("THINGS 0 .. 5 (6 at most) are of a KIND");
        OneKnife knife = new OneKnife();
        for (int i = 0; i < 6; i++) {
            edges.is("thing " + i, knife.thing(0, 1), i);
        }
        edges.is("a seventh", knife.thing(0, 1), -4);
        edges.is("there are six", knife.count(0), 6);
        edges.is("there is a thing 5", knife.broken(5, 0, 0), 1);
        edges.is("there is no thing 6", knife.broken(6, 0, 0), -2);
        OneKnife kinds = new OneKnife();
        edges.is("kind -1", kinds.thing(-1, 1), -2);
        edges.is("kind 3", kinds.thing(3, 1), -2);
        edges.is("kind 0", kinds.thing(0, 1), 0);
        edges.is("kind 2", kinds.thing(2, 1), 1);

        edges.says("0 TOOL (one TASK has it)");
        edges.is("of a tool none", knife.thing(0, 0), -2);
        edges.is("of a tool two", new OneKnife().thing(0, 2), -2);
        edges.is("of a tool one", new OneKnife().thing(0, 1), 0);
        OneKnife tool = Due.by(Due.withTools(1, "p60,d60,o0:t0,w2", "p60,d60,o0:t0,w1"), 0, 0, 2);
        edges.is("one has it", Due.states(tool, 0, 3), "110");
        edges.is("another one waits", Due.states(tool, 1, 4), "2210");
    }

    /** Task 0 comes when the others have the thing, and is asked ahead of them. */
    private static String comesLast(int many, int others) {
        OneKnife knife = Due.withThing(many == 1 ? 0 : 1, many, "p60,d60,o1:t0,w1");
        for (int i = 1; i <= others; i++) {
            Due.type(knife, i, "p60,d60,o0:t0,w3");
        }
        return Due.states(Due.by(knife, 0, 0, 3), 0, 5);
    }

    private static void scales() {
        edges.says("1 SCALE (2 or 3 may have it at once)");
        edges.is("of a scale one", new OneKnife().thing(1, 1), -2);
        edges.is("of a scale two", new OneKnife().thing(1, 2), 0);
        edges.is("of a scale three", new OneKnife().thing(1, 3), 0);
        edges.is("of a scale four", new OneKnife().thing(1, 4), -2);
        edges.is("a second one of two", comesLast(2, 1), "01000");
        edges.is("a third one of two", comesLast(2, 2), "02210");
        edges.is("a third one of three", comesLast(3, 2), "01000");
        edges.is("a fourth one of three", comesLast(3, 3), "02210");
    }

    private static void fires() {
        edges.says("2 FIRE (one; who has it is not put aside)");
        edges.is("of a fire none", new OneKnife().thing(2, 0), -2);
        edges.is("of a fire one", new OneKnife().thing(2, 1), 0);
        edges.is("of a fire two", new OneKnife().thing(2, 2), -2);
        String often = "p2,d60,o1:w1";
        String holds = "p60,d60,o0:w1,t0,w2,g0,w2";
        edges.is("from its t to its g", Due.chosen(Due.withThing(2, 1, often, holds), 0, 10), "1011001010");
        edges.is("a tool is no fire", Due.chosen(Due.withThing(0, 1, often, holds), 0, 10), "1010101010");
        OneKnife one = Due.by(Due.withThing(2, 1, "p60,d60,o0:t0,w1", "p60,d60,o0:t0,w1"), 0, 0, 2);
        edges.is("one has it", Due.states(one, 1, 3), "210");
    }

    /** When a job is done that takes a tool, broken so, at a tick, and works one tick. */
    private static int doneIfBroken(int from, int till, int tick) {
        OneKnife knife = Due.withTools(1, "p60,d60,o" + tick + ":t0,w1");
        knife.broken(0, from, till);
        return knife.done(0, 0);
    }

    private static void broken() {
        edges.says("Each may be BROKEN from a TICK to another (none at first)");
        OneKnife whole = Due.withTools(1, "p1,d1,o0:t0,w1,g0");
        whole.rule(3, 120);
        edges.is("none at first, in no tick", whole.told(0, 5), 0);
        whole.broken(0, 118, 118);
        edges.is("to the last tick but one", Due.states(whole, 0, 120).substring(117), "121");
        whole.broken(0, 119, 119);
        edges.is("in the last tick", Due.states(whole, 0, 120).substring(117), "112");

        edges.says("A THING is BROKEN from a TICK (0 to 119) to another (both with it; from above till: never): 1. BAD.");
        OneKnife knife = Due.withTools(2);
        edges.is("from -1", knife.broken(1, -1, 5), -2);
        edges.is("from 0", knife.broken(1, 0, 5), 1);
        edges.is("from 119", knife.broken(1, 119, 119), 1);
        edges.is("from 120", knife.broken(1, 120, 119), -2);
        edges.is("till -1", knife.broken(1, 0, -1), -2);
        edges.is("till 0", knife.broken(1, 0, 0), 1);
        edges.is("till 119", knife.broken(1, 0, 119), 1);
        edges.is("till 120", knife.broken(1, 0, 120), -2);
        edges.is("thing -1", knife.broken(-1, 0, 0), -2);
        edges.is("a thing that there is not", knife.broken(2, 0, 0), -2);
        edges.is("ahead of it", doneIfBroken(2, 4, 1), 2);
        edges.is("in its first tick", doneIfBroken(2, 4, 2), 6);
        edges.is("in its last tick", doneIfBroken(2, 4, 4), 6);
        edges.is("behind it", doneIfBroken(2, 4, 5), 6);
        edges.is("ahead of one tick", doneIfBroken(3, 3, 2), 3);
        edges.is("in one tick", doneIfBroken(3, 3, 3), 5);
        edges.is("in tick 0", doneIfBroken(0, 0, 0), 2);
        edges.is("from above till", doneIfBroken(4, 3, 3), 4);
        edges.is("from above till", doneIfBroken(4, 3, 4), 5);
        edges.is("from above till", doneIfBroken(119, 0, 0), 1);

        edges.says("it cannot be taken then (who has it keeps it).");
        OneKnife keeps = Due.withTools(1, "p60,d60,o1:t0,w3,g0,w1");
        keeps.broken(0, 2, 5);
        edges.is("taken the tick ahead", keeps.done(0, 0), 5);
        keeps.broken(0, 1, 5);
        edges.is("not taken in its first tick", keeps.done(0, 0), 10);
    }

    private static void ranksAndWorths() {
        edges.says("TASKS 0 .. 7 have a RANK (0 to 99; 10 less its number at first), a WORTH (0 to 99; 1 at first)");
        OneKnife knife = new OneKnife();
        for (int i = 0; i < 8; i++) {
            edges.is("rank of " + i, knife.about(i, 6), 10 - i);
            edges.is("worth of " + i, knife.about(i, 7), 1);
        }
        edges.is("task -1", knife.about(-1, 6), -2);
        edges.is("task 8", knife.about(8, 6), -2);

        edges.says("RANK (what = 0), WORTH (1) of a TASK: what it was. BAD.");
        for (int what = 0; what < 2; what++) {
            int first = what == 0 ? 3 : 1;
            edges.is("-1", knife.set(7, what, -1), -2);
            edges.is("100", knife.set(7, what, 100), -2);
            edges.is("0", knife.set(7, what, 0), first);
            edges.is("99", knife.set(7, what, 99), 0);
            edges.is("99 again", knife.set(7, what, 99), 99);
            edges.is("it is 99", knife.about(7, 6 + what), 99);
            edges.is("another one's", knife.about(6, 6 + what), what == 0 ? 4 : 1);
        }
        edges.is("what -1", knife.set(0, -1, 5), -2);
        edges.is("what 2", knife.set(0, 2, 5), -2);
        edges.is("task -1", knife.set(-1, 0, 5), -2);
        edges.is("task 0", knife.set(0, 0, 5), 10);
        edges.is("task 8", knife.set(8, 0, 5), -2);
    }

    private static void lengths() {
        edges.says("and a text of up to 60 bytes");
        StringBuilder longest = new StringBuilder("p05,d1,o0:w1");
        for (int n = 0; n < 16; n++) {
            longest.append(",w9");
        }
        OneKnife knife = Due.with(longest.substring(0, 59));
        edges.is("59 bytes: a step is broken off", knife.fault(0), 59);
        edges.is("the 60th byte", knife.type(0, '9'), 60);
        edges.is("60 bytes", knife.fault(0), -1);
        edges.is("60 bytes: work", knife.about(0, 3), 145);
        edges.is("60 bytes: steps", knife.about(0, 4), 17);
        edges.is("a 61st byte", knife.type(0, ','), -4);
        edges.is("it does not stand there", knife.fault(0), -1);
        edges.is("bytes", knife.count(2), 60);
        edges.is("wipe", knife.wipe(0), 60);
        edges.is("there is room again", knife.type(0, 'p'), 1);

        edges.says("A byte (0 to 255) comes behind a TASK's text: how many. BAD; FULL.");
        edges.is("byte -1", knife.type(1, -1), -2);
        edges.is("byte 0", knife.type(1, 0), 1);
        edges.is("byte 255", knife.type(1, 255), 2);
        edges.is("byte 256", knife.type(1, 256), -2);
        edges.is("task -1", knife.type(-1, 'p'), -2);
        edges.is("task 0", knife.type(0, 'p'), 2);
        edges.is("task 7", knife.type(7, 'p'), 1);
        edges.is("task 8", knife.type(8, 'p'), -2);

        edges.says("A text is empty: how many bytes it had. BAD.");
        edges.is("task -1", knife.wipe(-1), -2);
        edges.is("task 0", knife.wipe(0), 2);
        edges.is("task 7", knife.wipe(7), 1);
        edges.is("task 8", knife.wipe(8), -2);
        edges.is("it is empty", knife.wipe(7), 0);
        edges.is("it is empty", knife.fault(7), 0);
    }

    private static void numbers() {
        edges.says("p and SPAN (1 to 60), d and DUE (1 to 99), o and BEGINNING (0 to 99)");
        fault(0, "p0,d1,o0:w1", 1);
        fault(0, "p1,d1,o0:w1", -1);
        fault(0, "p60,d1,o0:w1", -1);
        fault(0, "p61,d1,o0:w1", 1);
        fault(0, "p5,d0,o0:w1", 4);
        fault(0, "p5,d1,o0:w1", -1);
        fault(0, "p5,d99,o0:w1", -1);
        fault(0, "p5,d100,o0:w1", 6);
        fault(0, "p5,d1,o0:w1", -1);
        fault(0, "p5,d1,o99:w1", -1);
        fault(0, "p5,d1,o100:w1", 9);
        OneKnife knife = Due.with("p1,d1,o0:w1", "p60,d99,o99:w1");
        int[][] want = {{1, 1, 0}, {60, 99, 99}};
        for (int i = 0; i < 2; i++) {
            for (int what = 0; what < 3; what++) {
                edges.is("about " + what, knife.about(i, what), want[i][what]);
            }
        }

        edges.says("Numbers of p, d, o have one or two figures.");
        fault(0, "p,d1,o0:w1", 1);
        fault(0, "p05,d1,o0:w1", -1);
        fault(0, "p015,d1,o0:w1", 3);
        fault(0, "p5,d,o0:w1", 4);
        fault(0, "p5,d01,o0:w1", -1);
        fault(0, "p5,d011,o0:w1", 6);
        fault(0, "p5,d1,o:w1", 7);
        fault(0, "p5,d1,o00:w1", -1);
        fault(0, "p5,d1,o000:w1", 9);
    }

    private static void order() {
        edges.says("with , between them, all three in this order");
        fault(0, "p5.d1,o0:w1", 2);
        fault(0, "p5d1,o0:w1", 2);
        fault(0, "p5,,d1,o0:w1", 3);
        fault(0, "p5,d1.o0:w1", 5);
        fault(0, "p5,d1o0:w1", 5);
        fault(0, "p5,d1:w1", 5);
        fault(0, "d1,p5,o0:w1", 0);
        fault(0, "o0,d1,p5:w1", 0);
        fault(0, "p5,o0,d1:w1", 3);
        fault(0, "p5,d1,p5:w1", 6);
        fault(0, "p5,d1,d1:w1", 6);

        edges.says("then : and STEPS with , between them");
        fault(0, "p5,d1,o0,w1", 8);
        fault(0, "p5,d1,o0w1", 8);
        fault(0, "p5,d1,o0::w1", 9);
        fault(0, "p5,d1,o0:,w1", 9);
        fault(0, "p5,d1,o0:w1,w1", -1);
        fault(0, "p5,d1,o0:w1:w1", 11);
        fault(0, "p5,d1,o0:w1w1", 11);
        fault(0, "p5,d1,o0:w1,,w1", 12);
        fault(0, "p5,d1,o0:w1,", 12);
        fault(0, "p5,d1,o0:", 9);
    }

    private static void steps() {
        edges.says("w and how many TICKS (1 to 9, one figure)");
        fault(0, text("w0"), 10);
        fault(0, text("w1"), -1);
        fault(0, text("w9"), -1);
        fault(0, text("w10"), 11);
        fault(0, text("w01"), 10);
        fault(0, text("w,"), 10);

        edges.says("t and a THING that it has not (0 to 5, one figure)");
        fault(6, text("t0,w1"), -1);
        fault(6, text("t5,w1"), -1);
        fault(6, text("t6,w1"), 10);
        fault(6, text("t00,w1"), 11);
        fault(6, text("t05,w1"), 11);
        fault(6, text("t,w1"), 10);
        fault(6, text("t0,w1,t0"), 16);
        fault(6, text("t0,w1,t1"), -1);
        fault(6, text("t0,w1,g0,t0"), -1);

        edges.says("g and a THING that it has");
        fault(6, text("g0,w1"), 10);
        fault(6, text("t0,g0,w1"), -1);
        fault(6, text("t0,g1,w1"), 13);
        fault(6, text("t5,g5,w1"), -1);
        fault(6, text("t0,g6,w1"), 13);
        fault(6, text("t0,w1,g0,g0"), 19);
        fault(6, text("t0,w1,g00"), 17);
    }

    private static void faults() {
        edges.says("The FAULT is the place of the first byte with which it cannot go on (of an empty text 0)");
        String whole = "p30,d9,o3:t0,w2,g0,w1";
        int[] want = {0, 1, 2, 3, 4, 5, 6, 7, 8, 9, 10, 11, 12, 13, 14, -1, 16, 17, -1, 19, 20, -1};
        for (int length = 0; length <= whole.length(); length++) {
            fault(1, whole.substring(0, length), want[length]);
        }

        edges.says("or of the first figure of a number that may not be (of a THING, as of one there is not, too)");
        fault(0, "p0", 1);
        fault(0, "p00", 1);
        fault(0, "p99", 1);
        fault(0, "p6", 2);
        fault(0, "p61", 1);
        fault(0, "p5,d00", 4);
        fault(2, text("t1,w1"), -1);
        fault(2, text("t2,w1"), 10);
        fault(3, text("t2,w1"), -1);
        fault(2, text("t0,g2,w1"), 13);
        OneKnife knife = Due.withTools(1, text("t1,w1"));
        edges.is("there is no thing 1", knife.fault(0), 10);
        knife.thing(1, 2);
        edges.is("there is one now", knife.fault(0), -1);

        edges.says("The FAULT of a text; NONE. BAD.");
        edges.is("task -1", knife.fault(-1), -2);
        edges.is("task 0", knife.fault(0), -1);
        edges.is("task 7", knife.fault(7), 0);
        edges.is("task 8", knife.fault(8), -2);
    }

    /** The fault of "p5,d1,o0:w1" if another byte stands at a place of it. */
    private static int faultWith(int place, int b) {
        boolean isFigure = b >= '0' && b <= '9';
        boolean isSame = "p5,d1,o0:w1".charAt(place) == b;
        switch (place) {
            case 1: case 4: case 10: return isFigure && b != '0' ? -1 : place;
            case 7: return isFigure ? -1 : place;
            // A second figure: the fault is behind the number then.
            case 2: case 5: case 8: return isSame ? -1 : isFigure ? place + 1 : place;
            // No thing is there to take or give back.
            case 9: return isSame ? -1 : b == 't' || b == 'g' ? 10 : 9;
            default: return isSame ? -1 : place;
        }
    }

    private static void everyByte() {
        edges.says("the first byte with which it cannot go on");
        for (int place = 0; place < 11; place++) {
            OneKnife knife = new OneKnife();
            for (int b = 0; b < 256; b++) {
                if (b % 32 == 0) {
                    knife = new OneKnife();
                }
                for (int i = 0; i < 11; i++) {
                    knife.type(0, i == place ? b : "p5,d1,o0:w1".charAt(i));
                }
                edges.is("byte " + b + " at " + place, knife.fault(0), faultWith(place, b));
                knife.wipe(0);
            }
        }
    }

    private static void stepsWithoutWork() {
        edges.says("At least one STEP is work.");
        fault(1, text("t0,g0,t0"), 17);
        fault(1, text("t0,g0,w1"), -1);
        fault(1, text("w1,t0,g0"), -1);

        edges.says("a text that has STEPS without work has its FAULT at its end.");
        fault(1, text("t0"), 11);
        fault(1, text("t0,g0"), 14);
        StringBuilder sixty = new StringBuilder("p05,d1,o0:t0");
        for (int n = 0; n < 8; n++) {
            sixty.append(",g0,t0");
        }
        fault(1, sixty.toString(), 60);
        fault(1, text("t0,"), 12);

        edges.says("With a FAULT it has no STEPS.");
        OneKnife knife = Due.withTools(1, text("w1,"), text("w1"));
        edges.is("steps", knife.about(0, 4), -3);
        edges.is("slack of a step ahead of the fault", knife.slack(0, 0), -2);
        edges.is("slack without a fault", knife.slack(1, 0), 0);
        edges.is("jobs", knife.told(0, 0), 0);
    }

    private static void whichTasksAre() {
        edges.says("A TASK IS, if its text has no FAULT and it is not DROPPED (none is at first);");
        OneKnife knife = Due.withTools(1, text("w1"), text("w"), text("w1"));
        knife.type(7, 'p');
        edges.is("none is dropped", knife.count(3), 0);
        edges.is("those that are", knife.count(1), 5);
        edges.is("no fault", knife.about(0, 8), 1);
        edges.is("a fault", knife.about(1, 8), 0);
        knife.drop(2, true);
        edges.is("dropped", knife.about(2, 8), 0);
        edges.is("those that are", knife.count(1), 1);
        knife.drop(1, true);
        knife.type(1, '1');
        edges.is("no fault, but dropped", knife.about(1, 8), 0);
        knife.drop(1, false);
        edges.is("not dropped any longer", knife.about(1, 8), 1);
        edges.is("those that are", knife.count(1), 3);

        edges.says("A TASK that has a text with a FAULT, or is DROPPED, is asked of like one that has no JOBS.");
        int[] none = {0, 0, 0, -1, 0, 0, 0};
        for (int task : new int[] {2, 6, 7}) {
            for (int what = 0; what < 7; what++) {
                edges.is("told " + task + " " + what, knife.told(task, what), none[what]);
            }
            edges.is("state " + task, knife.state(task, 0), 0);
            edges.is("done " + task, knife.done(task, 0), -1);
            edges.is("whatever " + task, knife.whatever(task, 1, 0), -1);
        }

        edges.says("A TASK is DROPPED, or not: 1; 0: it is so already. BAD.");
        edges.is("dropped already", knife.drop(2, true), 0);
        edges.is("not dropped", knife.drop(2, false), 1);
        edges.is("not dropped already", knife.drop(2, false), 0);
        edges.is("task -1", knife.drop(-1, true), -2);
        edges.is("task 0", knife.drop(0, true), 1);
        edges.is("task 7", knife.drop(7, true), 1);
        edges.is("task 8", knife.drop(8, true), -2);
        edges.is("dropped ones", knife.count(3), 129);
    }

    private static void workAndForgotten() {
        edges.says("WORK of a TASK: all its TICKS of work.");
        edges.is("one step", Due.with(text("w1")).about(0, 3), 1);
        edges.is("three steps", Due.withTools(1, text("w1,t0,w9,g0,w2")).about(0, 3), 12);

        edges.says("FORGOTTEN: THINGS that it has behind its last STEP (given back by themselves then).");
        edges.is("none", Due.withTools(6, text("t0,w1,g0")).about(0, 5), 0);
        edges.is("the first", Due.withTools(6, text("t0,t5,w1,g5")).about(0, 5), 1);
        edges.is("the last", Due.withTools(6, text("t0,t5,w1,g0")).about(0, 5), 32);
        edges.is("all", Due.withTools(6, text(SIX)).about(0, 5), 63);
        edges.is("taken again", Due.withTools(6, text("t0,w1,g0,t0")).about(0, 5), 1);
        OneKnife knife = Due.by(Due.withTools(1, "p60,d60,o0:t0,w2", "p60,d60,o0:t0,w1"), 0, 0, 2);
        edges.is("not ahead of its end", Due.states(knife, 1, 4), "2210");
    }

    private static void promises() {
        edges.says("A THING more of a KIND, that so many may have (1; of a SCALE 2, 3): its number. BAD; FULL.");
        OneKnife knife = Due.with("p9,d9,o0:w1,w2");
        edges.is("bad ahead of it", knife.thing(1, 1), -2);
        edges.is("its number", knife.thing(1, 3), 0);
        edges.is("its number", knife.thing(2, 1), 1);
        edges.is("a text is as it was", knife.about(0, 3), 3);
        edges.is("a text is as it was", knife.about(0, 4), 2);

        edges.says("Of a TASK: 0 SPAN, 1 DUE, 2 BEGINNING, 3 WORK, 4 STEPS, 5 FORGOTTEN (bits), 6 RANK, 7 WORTH, 8 whether it "
            + "IS. BAD; NOT (0 to 5): a FAULT.");
        OneKnife about = Due.withTools(2, "p20,d15,o3:t0,w2,t1,w3,g0", "p20,d15,o3:t0");
        int[] want = {20, 15, 3, 5, 5, 2, 10, 1, 1};
        int[] faulty = {-3, -3, -3, -3, -3, -3, 9, 1, 0};
        for (int what = 0; what < 9; what++) {
            edges.is("about " + what, about.about(0, what), want[what]);
            edges.is("a fault: about " + what, about.about(1, what), faulty[what]);
        }
        edges.is("what -1", about.about(0, -1), -2);
        edges.is("what 9", about.about(0, 9), -2);
        edges.is("bad ahead of not", about.about(1, -1), -2);
        edges.is("task -1", about.about(-1, 0), -2);
        edges.is("task 8", about.about(8, 0), -2);
    }
}
