/** Asks the class and the model the same calls, many runs of them, always the same ones. */
public final class ModelTest {
    private static final int[] ODD = {-2147483648, -1000, -5, -4, -3, -2, -1, 0, 1, 2, 3, 4, 5, 6, 7, 8, 9, 10, 20, 59, 60, 61,
        99, 100, 119, 120, 121, 255, 256, 300, 1000, 2147483647};
    private static final int RUNS = 500;

    private final Due due = new Due("ModelTest");
    private long seed;
    private OneKnife knife;
    private Model model;
    private int run;
    // Few things and many takings, so that there is much waiting.
    private boolean busy;
    private int calls;

    public static void main(String[] args) {
        ModelTest test = new ModelTest();
        int runs = args.length == 1 ? Integer.parseInt(args[0]) : RUNS;
        for (int run = 0; run < runs; run++) {
            test.go(run);
        }
        test.due.end();
    }

    private int upTo(int n) {
        seed = seed * 6364136223846793005L + 1442695040888963407L;
        return (int) ((seed >>> 33) % n);
    }

    private int between(int from, int to) {
        return from + upTo(to - from + 1);
    }

    private int odd() {
        return ODD[upTo(ODD.length)];
    }

    private void is(String call, long got, long want) {
        calls++;
        due.is("run " + run + " call " + calls + " " + call, got, want);
    }

    private void go(int number) {
        run = number;
        seed = number * 7919L + 12345;
        calls = 0;
        knife = new OneKnife();
        model = new Model();
        busy = number % 2 == 0;
        int things = busy ? between(1, 3) : upTo(6);
        for (int i = 0; i < things; i++) {
            thing();
        }
        int tasks = between(busy ? 3 : 1, upTo(4) == 0 ? 8 : busy ? 4 : 5);
        for (int i = 0; i < tasks; i++) {
            text(upTo(6) == 0 ? upTo(8) : i);
        }
        while (calls < 480) {
            switch (upTo(10)) {
                case 0:
                    change();
                    is("digest", knife.digest(), model.digest());
                    break;
                case 1: tasks(); break;
                case 2: reckon(); break;
                case 3: sheets(); sheets(); sheets(); break;
                default: ask();
            }
            if (upTo(20) == 0) {
                wild();
            }
        }
        is("digest", knife.digest(), model.digest());
    }

    private void thing() {
        int kind = upTo(3);
        int many = kind == 1 ? between(2, 3) : 1;
        is("thing " + kind + " " + many, knife.thing(kind, many), model.thing(kind, many));
    }

    /** Mostly a text without a fault, of steps that fit the things there are. */
    private void text(int task) {
        is("wipe " + task, knife.wipe(task), model.wipe(task));
        StringBuilder text = new StringBuilder();
        int span = busy ? between(25, 60) : upTo(4) == 0 ? between(1, 60) : between(8, 40);
        int late = upTo(3) == 0 ? between(1, 99) : between(Math.min(99, span / 2 + 1), Math.min(99, span + 5));
        text.append("p").append(span).append(",d").append(late);
        text.append(",o").append(upTo(5) == 0 ? upTo(100) : upTo(10)).append(":");
        int steps = between(1, busy ? 14 : 8);
        int has = 0;
        for (int k = 0; k < steps; k++) {
            int thing = model.things.isEmpty() ? 0 : upTo(model.things.size());
            String step = "w" + (upTo(3) == 0 && !busy ? between(1, 9) : between(1, 3));
            if (!model.things.isEmpty() && upTo(2) == 0) {
                step = ((has >> thing & 1) != 0 ? "g" : "t") + thing;
                has ^= 1 << thing;
            }
            text.append(k == 0 ? "" : ",").append(step);
        }
        if (upTo(3) != 0 && text.indexOf("w") < 0) {
            text.append(",w").append(between(1, 4));
        }
        if (upTo(12) == 0) {
            int place = upTo(text.length());
            text.setCharAt(place, "0123456789pdowtg,: xz".charAt(upTo(21)));
        }
        if (upTo(20) == 0) {
            text.setLength(upTo(text.length()));
        }
        for (int i = 0; i < text.length(); i++) {
            is("type " + task + " " + text.charAt(i), knife.type(task, text.charAt(i)), model.type(task, text.charAt(i)));
            if (upTo(8) == 0) {
                is("fault " + task, knife.fault(task), model.fault(task));
            }
        }
        is("fault " + task + " of " + text, knife.fault(task), model.fault(task));
    }

    private void change() {
        int task = upTo(8);
        switch (upTo(9)) {
            case 0: {
                int v = upTo(3);
                is("rule 0 " + v, knife.rule(0, v), model.rule(0, v));
                break;
            }
            case 1: case 2: {
                int v = upTo(3);
                is("rule 1 " + v, knife.rule(1, v), model.rule(1, v));
                break;
            }
            case 3: {
                int v = between(1, 3);
                is("rule 2 " + v, knife.rule(2, v), model.rule(2, v));
                break;
            }
            case 4: {
                int v = between(1, 120);
                is("rule 3 " + v, knife.rule(3, v), model.rule(3, v));
                break;
            }
            case 5: {
                int what = upTo(2);
                int v = upTo(3) == 0 ? upTo(100) : upTo(12);
                is("set " + task + " " + what + " " + v, knife.set(task, what, v), model.set(task, what, v));
                break;
            }
            case 6: {
                boolean is = upTo(3) == 0;
                is("drop " + task + " " + is, knife.drop(task, is), model.drop(task, is));
                break;
            }
            case 7: {
                int thing = upTo(6);
                int from = upTo(120);
                int till = upTo(3) == 0 ? upTo(120) : Math.min(119, from + upTo(10));
                is("broken " + thing + " " + from + " " + till, knife.broken(thing, from, till), model.broken(thing, from, till));
                break;
            }
            default: {
                if (upTo(6) == 0) {
                    thing();
                } else if (calls < 420) {
                    text(upTo(8));
                }
            }
        }
    }

    private void tasks() {
        int task = upTo(8);
        int what = upTo(9);
        is("about " + task + " " + what, knife.about(task, what), model.about(task, what));
        is("count " + what, knife.count(what), model.count(what));
        is("fault " + task, knife.fault(task), model.fault(task));
    }

    private void ask() {
        int task = upTo(upTo(3) == 0 ? 8 : 4);
        int tick = upTo(upTo(3) == 0 ? model.ticks : Math.min(model.ticks, 30));
        int n = upTo(model.hands);
        int what = upTo(7);
        int i = upTo(8);
        switch (upTo(6)) {
            case 0: is("who " + tick + " " + n, knife.who(tick, n), model.who(tick, n)); break;
            case 1: is("state " + task + " " + tick, knife.state(task, tick), model.state(task, tick)); break;
            case 2: is("done " + task + " " + i, knife.done(task, i), model.done(task, i)); break;
            case 3: is("told " + task + " " + what, knife.told(task, what), model.told(task, what)); break;
            case 4: is("late", knife.late(), model.late()); break;
            default:
                is("ring 0", knife.ring(0), model.ring(0));
                is("ring 1", knife.ring(1), model.ring(1));
        }
    }

    private void reckon() {
        int task = upTo(8);
        int step = upTo(8);
        for (int n = 0; n < 8 && model.slackable(task, step) != 1; n++) {
            task = upTo(8);
            step = upTo(8);
        }
        int j = between(1, 3);
        switch (upTo(14)) {
            case 0: case 1: is("best 0", knife.best(0), model.best(0)); is("best 1", knife.best(1), model.best(1)); break;
            case 2: is("best 2", knife.best(2), model.best(2)); is("best 4", knife.best(4), model.best(4)); break;
            case 3: case 4: is("slack " + task + " " + step, knife.slack(task, step), model.slack(task, step)); break;
            case 5: is("shed 0", knife.shed(0), model.shed(0)); is("shed 1", knife.shed(1), model.shed(1)); break;
            case 6: is("whatever " + task + " " + j + " 0", knife.whatever(task, j, 0), model.whatever(task, j, 0)); break;
            case 7: is("whatever " + task + " " + j + " 1", knife.whatever(task, j, 1), model.whatever(task, j, 1)); break;
            case 8: for (int w = 0; w < 5; w++) is("mended " + w, knife.mended(w), model.mended(w)); break;
            case 9: case 10: is("bound " + task, knife.bound(task), model.bound(task)); break;
            case 11: is("held " + task, knife.held(task), model.held(task)); break;
            default:
                if (model.lending != 2 && upTo(2) == 0) {
                    is("rule 0 0", knife.rule(0, 0), model.rule(0, 0));
                    is("rule 1 2", knife.rule(1, 2), model.rule(1, 2));
                    is("rule 2 1", knife.rule(2, 1), model.rule(2, 1));
                }
                for (int i = 0; i < 8; i++) {
                    is("bound " + i, knife.bound(i), model.bound(i));
                }
        }
    }

    private void sheets() {
        int s = upTo(4);
        int t = upTo(4);
        int type = upTo(3);
        int n = upTo(6) == 0 ? between(-1, 61) : upTo(25);
        int i = between(-1, n + 1);
        int j = between(-1, n + 1);
        int m = upTo(n + 2) - 1;
        switch (upTo(9)) {
            case 0: is("sheet " + s + " " + type + " " + n, knife.sheet(s, type, n), model.sheet(s, type, n)); break;
            case 1:
                if (upTo(4) == 0) {
                    is("lose " + s, knife.lose(s), model.lose(s));
                }
                break;
            case 2: case 3: {
                int v = upTo(3) == 0 ? odd() : between(-3, 9);
                is("put " + s + " " + type + " " + i + " " + v, knife.put(s, type, i, v), model.put(s, type, i, v));
                break;
            }
            case 4: is("get " + s + " " + type + " " + i, knife.get(s, type, i), model.get(s, type, i)); break;
            case 5: is("copy " + s + " " + i + " " + t + " " + j + " " + m, knife.copy(s, i, t, j, m), model.copy(s, i, t, j, m)); break;
            case 6: is("write " + s, knife.write(s), model.write(s)); break;
            case 7: is("fits " + s, knife.fits(s), model.fits(s)); break;
            default: is("count 8", knife.count(8), model.count(8));
        }
    }

    private void wild() {
        int a = odd(), b = odd(), c = odd(), d = odd(), e = odd();
        String all = " " + a + " " + b + " " + c + " " + d + " " + e;
        switch (upTo(29)) {
            case 0: is("thing" + all, knife.thing(a, b), model.thing(a, b)); break;
            case 1: is("broken" + all, knife.broken(a, b, c), model.broken(a, b, c)); break;
            case 2: is("type" + all, knife.type(a, b), model.type(a, b)); break;
            case 3: is("wipe" + all, knife.wipe(a + 8), model.wipe(a + 8)); break;
            case 4: is("fault" + all, knife.fault(a), model.fault(a)); break;
            case 5: is("about" + all, knife.about(a, b), model.about(a, b)); break;
            case 6: is("set" + all, knife.set(a, b, c), model.set(a, b, c)); break;
            case 7: is("drop" + all, knife.drop(a, false), model.drop(a, false)); break;
            case 8: is("rule" + all, knife.rule(a, b), model.rule(a, b)); break;
            case 9: is("who" + all, knife.who(a, b), model.who(a, b)); break;
            case 10: is("state" + all, knife.state(a, b), model.state(a, b)); break;
            case 11: is("done" + all, knife.done(a, b), model.done(a, b)); break;
            case 12: is("told" + all, knife.told(a, b), model.told(a, b)); break;
            case 13: is("ring" + all, knife.ring(a), model.ring(a)); break;
            case 14: is("bound" + all, knife.bound(a), model.bound(a)); break;
            case 15: is("held" + all, knife.held(a), model.held(a)); break;
            case 16: is("best" + all, knife.best(a), model.best(a)); break;
            case 17: is("slack" + all, knife.slack(a, b), model.slack(a, b)); break;
            case 18: is("shed" + all, knife.shed(a), model.shed(a)); break;
            case 19: is("whatever" + all, knife.whatever(a, b, c), model.whatever(a, b, c)); break;
            case 20: is("fits" + all, knife.fits(a), model.fits(a)); break;
            case 21: is("mended" + all, knife.mended(a), model.mended(a)); break;
            case 22: is("sheet" + all, knife.sheet(a, b, c), model.sheet(a, b, c)); break;
            case 23: is("lose" + all, knife.lose(a), model.lose(a)); break;
            case 24: is("put" + all, knife.put(a, b, c, d), model.put(a, b, c, d)); break;
            case 25: is("get" + all, knife.get(a, b, c), model.get(a, b, c)); break;
            case 26: is("copy" + all, knife.copy(a & 3, b, c & 3, d, e), model.copy(a & 3, b, c & 3, d, e)); break;
            case 27: is("write" + all, knife.write(a), model.write(a)); break;
            default: is("count" + all, knife.count(a), model.count(a));
        }
    }
}
