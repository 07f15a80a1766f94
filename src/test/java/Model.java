import java.util.ArrayList;
import java.util.Arrays;
import java.util.Collections;
import java.util.Comparator;
import java.util.HashMap;
import java.util.HashSet;
import java.util.List;
import java.util.Map;
import java.util.Set;
import java.util.TreeMap;
import java.util.TreeSet;

/**
 * The document once more, written another way and without any care for speed: lists and sets, keys in force looked up
 * along those that wait, every candidate of a search run to its end and the best one picked by sorting.
 * ModelTest asks it and the class the same.
 */
final class Model {
    static final int NONE = -1, BAD = -2, NOT = -3, FULL = -4;

    static final class Thing {
        int kind, many, from = 1, till = 0;
    }

    static final class Step {
        final char kind;
        final int figure;

        Step(char kind, int figure) {
            this.kind = kind;
            this.figure = figure;
        }
    }

    static final class Text {
        int fault = NONE, span, due, beginning;
        List<Step> steps = new ArrayList<>();
        Set<Integer> forgotten = new TreeSet<>();

        int work() {
            return steps.stream().filter(s -> s.kind == 'w').mapToInt(s -> s.figure).sum();
        }

        Set<Integer> takes() {
            Set<Integer> set = new TreeSet<>();
            steps.stream().filter(s -> s.kind == 't').forEach(s -> set.add(s.figure));
            return set;
        }
    }

    static final class Job {
        int came, due, done = NONE;

        boolean late(int ticks) {
            return done == NONE ? due <= ticks : done > due;
        }
    }

    /** What may be otherwise from run to run. */
    static final class How {
        Set<Integer> are = new TreeSet<>();
        int[] rank = new int[8];
        int[] later = new int[8];
        int rule, lending, hands, ticks;
        int longTask = NONE, longStep, longerBy;
    }

    static final class Result {
        List<List<Job>> jobs = new ArrayList<>();
        List<List<Integer>> chosen = new ArrayList<>();
        int[][] state;
        int ringTick = NONE, ringBits = 0;
        int ticks;

        int late() {
            int sum = 0;
            for (List<Job> list : jobs) {
                for (Job job : list) {
                    sum += job.late(ticks) ? 1 : 0;
                }
            }
            return sum;
        }

        int longest(int task) {
            return jobs.get(task).stream().filter(j -> j.done != NONE).mapToInt(j -> j.done - j.came).max().orElse(NONE);
        }
    }

    final List<Thing> things = new ArrayList<>();
    final List<List<Integer>> texts = new ArrayList<>();
    final int[] rank = new int[8], worth = new int[8];
    final Set<Integer> dropped = new TreeSet<>();
    int rule = 0, lending = 0, hands = 1, ticks = 60, finding = 0;
    final int[] sheetType = {NONE, NONE, NONE, NONE};
    final int[][] sheetRow = new int[4][];

    Model() {
        for (int i = 0; i < 8; i++) {
            texts.add(new ArrayList<>());
            rank[i] = 10 - i;
            worth[i] = 1;
        }
    }

    // ---- texts

    /** By its states: each state says what may come; numbers are judged when they are whole. */
    Text text(int task) {
        List<Integer> t = texts.get(task);
        Text text = new Text();
        String head = "p#,d#,o#:";
        int[] numbers = new int[3];
        int[][] limits = {{1, 60}, {1, 99}, {0, 99}};
        int place = 0, number = 0;
        for (char sign : head.toCharArray()) {
            if (sign != '#') {
                if (place >= t.size() || t.get(place) != sign) {
                    return faulty(place);
                }
                place++;
                continue;
            }
            String figures = "";
            int first = place;
            while (figures.length() < 2 && place < t.size() && Character.isDigit((char) (int) t.get(place)) && t.get(place) < 128) {
                figures += (char) (int) t.get(place++);
            }
            if (figures.isEmpty()) {
                return faulty(place);
            }
            numbers[number] = Integer.parseInt(figures);
            if (numbers[number] < limits[number][0] || numbers[number] > limits[number][1]) {
                return faulty(first);
            }
            number++;
        }
        text.span = numbers[0];
        text.due = numbers[1];
        text.beginning = numbers[2];
        while (true) {
            if (place >= t.size() || "wtg".indexOf(t.get(place)) < 0) {
                return faulty(place);
            }
            char kind = (char) (int) t.get(place++);
            if (place >= t.size() || t.get(place) < '0' || t.get(place) > '9') {
                return faulty(place);
            }
            int figure = t.get(place) - '0';
            boolean may = kind == 'w' ? figure > 0
                : figure < things.size() && (kind == 't') != text.forgotten.contains(figure);
            if (!may) {
                return faulty(place);
            }
            place++;
            if (kind == 't') {
                text.forgotten.add(figure);
            } else if (kind == 'g') {
                text.forgotten.remove(figure);
            }
            text.steps.add(new Step(kind, figure));
            if (place == t.size()) {
                return text.work() == 0 ? faulty(place) : text;
            }
            if (t.get(place++) != ',') {
                return faulty(place - 1);
            }
        }
    }

    static Text faulty(int place) {
        Text text = new Text();
        text.fault = place;
        return text;
    }

    static int bits(Set<Integer> set) {
        return set.stream().mapToInt(i -> 1 << i).sum();
    }

    Set<Integer> are() {
        Set<Integer> set = new TreeSet<>();
        for (int i = 0; i < 8; i++) {
            if (text(i).fault == NONE && !dropped.contains(i)) {
                set.add(i);
            }
        }
        return set;
    }

    How how() {
        How how = new How();
        how.are = are();
        how.rank = rank.clone();
        how.rule = rule;
        how.lending = lending;
        how.hands = hands;
        how.ticks = ticks;
        return how;
    }

    // ---- the run

    final class Runner {
        final How how;
        final Result result = new Result();
        final Text[] text = new Text[8];
        final Job[] job = new Job[8];
        final int[] step = new int[8], spent = new int[8], worked = new int[8], begun = new int[8];
        final List<Set<Integer>> has = new ArrayList<>();
        List<Integer> working;
        Map<Integer, Set<Integer>> waits;

        Runner(How how) {
            this.how = how;
            for (int i = 0; i < 8; i++) {
                text[i] = Model.this.text(i);
                worked[i] = NONE;
                has.add(new TreeSet<>());
                result.jobs.add(new ArrayList<>());
            }
            result.ticks = how.ticks;
            result.state = new int[8][how.ticks];
        }

        Result run() {
            for (int t = 0; t < how.ticks; t++) {
                comeJobs(t);
                working = new ArrayList<>();
                waits = new TreeMap<>();
                for (int hand = 0; hand < how.hands; hand++) {
                    chooseFor(t);
                }
                result.chosen.add(working);
                for (int i = 0; i < 8; i++) {
                    result.state[i][t] = job[i] == null ? 0 : working.contains(i) ? 1 : waits.containsKey(i) ? 2 : 3;
                }
                ring(t);
                for (int i : working) {
                    worked[i] = t;
                    spent[i]++;
                    int whole = text[i].steps.get(step[i]).figure
                        + (how.longTask == i && how.longStep == step[i] ? how.longerBy : 0);
                    if (spent[i] == whole) {
                        spent[i] = 0;
                        step[i]++;
                        while (step[i] < text[i].steps.size() && text[i].steps.get(step[i]).kind == 'g') {
                            has.get(i).remove(text[i].steps.get(step[i]).figure);
                            step[i]++;
                        }
                        if (step[i] == text[i].steps.size()) {
                            finish(i, t + 1);
                        }
                    }
                }
            }
            return result;
        }

        void comeJobs(int t) {
            for (int i : how.are) {
                int since = t - text[i].beginning - how.later[i];
                if (since >= 0 && since % text[i].span == 0) {
                    Job come = new Job();
                    come.came = t;
                    come.due = t + text[i].due;
                    result.jobs.get(i).add(come);
                }
                if (job[i] == null && begun[i] < result.jobs.get(i).size()) {
                    job[i] = result.jobs.get(i).get(begun[i]++);
                    step[i] = 0;
                    spent[i] = 0;
                }
            }
        }

        void finish(int i, int when) {
            job[i].done = when;
            job[i] = null;
            has.get(i).clear();
        }

        int ownKey(int i) {
            return how.rule == 0 ? 1000 - how.rank[i] : how.rule == 1 ? job[i].due : worked[i];
        }

        int keyInForce(int i, Set<Integer> seen) {
            int key = ownKey(i);
            if (how.lending == 0 || how.rule == 2) {
                return key;
            }
            seen.add(i);
            for (Map.Entry<Integer, Set<Integer>> wait : waits.entrySet()) {
                if (wait.getValue().contains(i) && !seen.contains(wait.getKey())) {
                    key = Math.min(key, keyInForce(wait.getKey(), seen));
                }
            }
            return key;
        }

        boolean hasFire(int i) {
            return has.get(i).stream().anyMatch(x -> things.get(x).kind == 2);
        }

        void chooseFor(int t) {
            Set<Integer> gone = new HashSet<>();
            while (true) {
                List<Integer> candidates = new ArrayList<>();
                for (int i = 0; i < 8; i++) {
                    if (job[i] != null && !working.contains(i) && !waits.containsKey(i) && !gone.contains(i)) {
                        candidates.add(i);
                    }
                }
                if (candidates.isEmpty()) {
                    return;
                }
                candidates.sort(Comparator.comparing((Integer i) -> hasFire(i) ? 0 : 1)
                    .thenComparing(i -> keyInForce(i, new HashSet<>())).thenComparing(i -> i));
                int i = candidates.get(0);
                while (step[i] < text[i].steps.size()) {
                    Step s = text[i].steps.get(step[i]);
                    if (s.kind == 'w') {
                        working.add(i);
                        return;
                    }
                    if (s.kind == 'g') {
                        has.get(i).remove(s.figure);
                    } else {
                        Set<Integer> waitsFor = new TreeSet<>();
                        if (mayNot(i, s.figure, t, waitsFor)) {
                            waits.put(i, waitsFor);
                            break;
                        }
                        has.get(i).add(s.figure);
                    }
                    step[i]++;
                }
                if (!waits.containsKey(i)) {
                    finish(i, t);
                    gone.add(i);
                }
            }
        }

        boolean mayNot(int i, int x, int t, Set<Integer> waitsFor) {
            Thing thing = things.get(x);
            boolean may = !(thing.from <= t && t <= thing.till);
            Set<Integer> holders = new TreeSet<>();
            for (int u = 0; u < 8; u++) {
                if (u != i && has.get(u).contains(x)) {
                    holders.add(u);
                }
            }
            if (holders.size() == thing.many) {
                may = false;
                waitsFor.addAll(holders);
            }
            if (how.lending == 2) {
                for (int u = 0; u < 8; u++) {
                    for (int y : has.get(u)) {
                        boolean onlyLesser = true;
                        for (int v : how.are) {
                            if (text[v].takes().contains(y) && !(how.rank[v] < how.rank[i])) {
                                onlyLesser = false;
                            }
                        }
                        if (u != i && !onlyLesser) {
                            may = false;
                            waitsFor.add(u);
                        }
                    }
                }
            }
            return !may;
        }

        void ring(int t) {
            if (result.ringTick != NONE) {
                return;
            }
            for (int i : waits.keySet()) {
                Set<Integer> seen = new HashSet<>();
                List<Integer> open = new ArrayList<>(waits.get(i));
                while (!open.isEmpty()) {
                    int u = open.remove(0);
                    if (seen.add(u) && waits.containsKey(u)) {
                        open.addAll(waits.get(u));
                    }
                }
                if (seen.contains(i)) {
                    result.ringTick = t;
                    result.ringBits |= 1 << i;
                }
            }
        }
    }

    Result run(How how) {
        return new Runner(how).run();
    }

    private Result kept;
    private final Map<String, Object> memory = new HashMap<>();

    Result run() {
        if (kept == null) {
            kept = run(how());
        }
        return kept;
    }

    void changed() {
        kept = null;
        memory.clear();
    }

    // ---- calls

    static boolean in(int v, int from, int to) {
        return v >= from && v <= to;
    }

    int thing(int kind, int many) {
        if (!in(kind, 0, 2) || (kind == 1 ? !in(many, 2, 3) : many != 1)) {
            return BAD;
        }
        if (things.size() == 6) {
            return FULL;
        }
        Thing thing = new Thing();
        thing.kind = kind;
        thing.many = many;
        things.add(thing);
        changed();
        return things.size() - 1;
    }

    int broken(int thing, int from, int till) {
        if (!in(thing, 0, things.size() - 1) || !in(from, 0, 119) || !in(till, 0, 119)) {
            return BAD;
        }
        things.get(thing).from = from;
        things.get(thing).till = till;
        changed();
        return 1;
    }

    int type(int task, int b) {
        if (!in(task, 0, 7) || !in(b, 0, 255)) {
            return BAD;
        }
        if (texts.get(task).size() == 60) {
            return FULL;
        }
        texts.get(task).add(b);
        changed();
        return texts.get(task).size();
    }

    int wipe(int task) {
        if (!in(task, 0, 7)) {
            return BAD;
        }
        int size = texts.get(task).size();
        texts.get(task).clear();
        changed();
        return size;
    }

    int fault(int task) {
        return in(task, 0, 7) ? text(task).fault : BAD;
    }

    int about(int task, int what) {
        if (!in(task, 0, 7) || !in(what, 0, 8)) {
            return BAD;
        }
        Text text = text(task);
        if (what < 6 && text.fault != NONE) {
            return NOT;
        }
        int[] all = {text.span, text.due, text.beginning, text.work(), text.steps.size(), bits(text.forgotten),
            rank[task], worth[task], are().contains(task) ? 1 : 0};
        return all[what];
    }

    int set(int task, int what, int v) {
        if (!in(task, 0, 7) || !in(what, 0, 1) || !in(v, 0, 99)) {
            return BAD;
        }
        int[] row = what == 0 ? rank : worth;
        int was = row[task];
        row[task] = v;
        changed();
        return was;
    }

    int drop(int task, boolean is) {
        if (!in(task, 0, 7)) {
            return BAD;
        }
        changed();
        return (is ? dropped.add(task) : dropped.remove(task)) ? 1 : 0;
    }

    int rule(int what, int v) {
        int[][] limits = {{0, 2}, {0, 2}, {1, 3}, {1, 120}};
        if (!in(what, 0, 3) || !in(v, limits[what][0], limits[what][1])) {
            return BAD;
        }
        int was = count(4 + what);
        if (what == 0) {
            rule = v;
        } else if (what == 1) {
            lending = v;
        } else if (what == 2) {
            hands = v;
        } else {
            ticks = v;
        }
        changed();
        return was;
    }

    int who(int tick, int n) {
        if (!in(tick, 0, ticks - 1) || !in(n, 0, hands - 1)) {
            return BAD;
        }
        List<Integer> chosen = run().chosen.get(tick);
        return n < chosen.size() ? chosen.get(n) : NONE;
    }

    int state(int task, int tick) {
        return in(task, 0, 7) && in(tick, 0, ticks - 1) ? run().state[task][tick] : BAD;
    }

    int done(int task, int i) {
        if (!in(task, 0, 7) || i < 0) {
            return BAD;
        }
        List<Job> jobs = run().jobs.get(task);
        return i < jobs.size() ? jobs.get(i).done : NONE;
    }

    int told(int task, int what) {
        if (!in(task, 0, 7) || !in(what, 0, 6)) {
            return BAD;
        }
        Result r = run();
        List<Job> jobs = r.jobs.get(task);
        if (what == 0) {
            return jobs.size();
        }
        if (what == 1) {
            return (int) jobs.stream().filter(j -> j.done != NONE).count();
        }
        if (what == 2) {
            return (int) jobs.stream().filter(j -> j.late(ticks)).count();
        }
        if (what == 3) {
            return r.longest(task);
        }
        int sum = 0;
        for (int t = 0; t < ticks; t++) {
            int state = r.state[task][t];
            boolean counts = what == 4 ? state == 1 : what == 5 ? state == 2
                : state >= 2 && r.chosen.get(t).stream().anyMatch(u -> rank[u] < rank[task]);
            sum += counts ? 1 : 0;
        }
        return sum;
    }

    int late() {
        return run().late();
    }

    int ring(int what) {
        return what == 0 ? run().ringTick : what == 1 ? run().ringBits : BAD;
    }

    // ---- bounds

    boolean ahead(int one, int other) {
        return one != other && are().contains(one)
            && (rank[one] > rank[other] || rank[one] == rank[other] && one < other);
    }

    boolean mayNotReckon(int task) {
        return rule != 0 || lending != 2 || hands != 1 || !are().contains(task);
    }

    int held(int task) {
        if (!in(task, 0, 7)) {
            return BAD;
        }
        if (mayNotReckon(task)) {
            return NOT;
        }
        Set<Integer> reachable = new TreeSet<>(text(task).takes());
        for (int i : are()) {
            if (ahead(i, task)) {
                reachable.addAll(text(i).takes());
            }
        }
        int most = 0;
        for (int i : are()) {
            if (i == task || ahead(i, task)) {
                continue;
            }
            Map<Integer, Integer> sums = new HashMap<>();
            for (Step s : text(i).steps) {
                if (s.kind == 't' && (reachable.contains(s.figure) || things.get(s.figure).kind == 2)) {
                    sums.put(s.figure, 0);
                } else if (s.kind == 'g') {
                    sums.remove(s.figure);
                } else if (s.kind == 'w') {
                    sums.replaceAll((x, v) -> v + s.figure);
                }
                for (int v : sums.values()) {
                    most = Math.max(most, v);
                }
            }
        }
        return most;
    }

    int bound(int task) {
        if (!in(task, 0, 7)) {
            return BAD;
        }
        if (mayNotReckon(task)) {
            return NOT;
        }
        int own = text(task).work() + held(task);
        Set<Integer> are = are();
        Text[] all = new Text[8];
        for (int i : are) {
            all[i] = ahead(i, task) ? text(i) : null;
        }
        for (int r = own; r <= 400; r++) {
            int sum = own;
            for (Text a : all) {
                sum += a == null ? 0 : a.work() * (int) Math.ceil(r / (double) a.span);
            }
            if (sum == r) {
                return r;
            }
        }
        return NONE;
    }

    // ---- searches

    static void orders(List<Integer> left, List<Integer> order, List<List<Integer>> all) {
        if (left.isEmpty()) {
            all.add(new ArrayList<>(order));
        }
        for (int i : left) {
            List<Integer> rest = new ArrayList<>(left);
            rest.remove((Integer) i);
            order.add(i);
            orders(rest, order, all);
            order.remove(order.size() - 1);
        }
    }

    int best(int i) {
        Set<Integer> are = are();
        if (i < 0 || i >= are.size()) {
            return BAD;
        }
        if (are.size() > 5) {
            return FULL;
        }
        @SuppressWarnings("unchecked")
        List<Integer> found = (List<Integer>) memory.computeIfAbsent("best", key -> bestOrder(are));
        return found.isEmpty() ? NONE : found.get(i);
    }

    List<Integer> bestOrder(Set<Integer> are) {
        List<List<Integer>> all = new ArrayList<>();
        orders(new ArrayList<>(are), new ArrayList<>(), all);
        for (List<Integer> order : all) {
            How how = how();
            for (int k = 0; k < order.size(); k++) {
                how.rank[order.get(k)] = 90 - k;
            }
            if (run(how).late() == 0) {
                return order;
            }
        }
        return Collections.emptyList();
    }

    /** 1, if a step is work of a task that is. */
    int slackable(int task, int step) {
        List<Step> steps = text(task).steps;
        return are().contains(task) && step < steps.size() && steps.get(step).kind == 'w' ? 1 : 0;
    }

    int slack(int task, int step) {
        if (!in(task, 0, 7) || !in(step, 0, text(task).steps.size() - 1) || text(task).steps.get(step).kind != 'w') {
            return BAD;
        }
        if (!are().contains(task)) {
            return NOT;
        }
        int answer = NONE;
        for (int more = 0; more <= 20; more++) {
            How how = how();
            how.longTask = task;
            how.longStep = step;
            how.longerBy = more;
            if (run(how).late() != 0) {
                break;
            }
            answer = more;
        }
        return answer;
    }

    int shed(int what) {
        if (!in(what, 0, 1)) {
            return BAD;
        }
        int[] found = (int[]) memory.computeIfAbsent("shed", key -> shedding());
        return found[what];
    }

    int[] shedding() {
        List<int[]> found = new ArrayList<>();
        for (int bits = 0; bits < 256; bits++) {
            How how = how();
            if ((bits & ~bits(how.are)) != 0) {
                continue;
            }
            int keptWorth = 0;
            for (int i = 0; i < 8; i++) {
                if ((bits >> i & 1) != 0) {
                    how.are.remove(i);
                } else if (how.are.contains(i)) {
                    keptWorth += worth[i];
                }
            }
            if (run(how).late() == 0) {
                found.add(new int[] {bits, keptWorth});
            }
        }
        found.sort(Comparator.comparing((int[] f) -> -f[1]).thenComparing(f -> Integer.bitCount(f[0])).thenComparing(f -> f[0]));
        return found.get(0);
    }

    int whatever(int task, int j, int what) {
        if (!in(task, 0, 7) || !in(j, 1, 3) || !in(what, 0, 1)) {
            return BAD;
        }
        if (are().size() > 4) {
            return FULL;
        }
        int[] found = (int[]) memory.computeIfAbsent("whatever " + j, key -> {
            int[] all = new int[9];
            Arrays.fill(all, 0, 8, NONE);
            ways(how(), new ArrayList<>(are()), j, all);
            return all;
        });
        return what == 0 ? found[task] : found[8];
    }

    void ways(How how, List<Integer> left, int j, int[] found) {
        if (left.isEmpty()) {
            Result r = run(how);
            found[8] += r.late() > 0 ? 1 : 0;
            for (int i = 0; i < 8; i++) {
                found[i] = Math.max(found[i], r.longest(i));
            }
            return;
        }
        for (int d = 0; d <= j; d++) {
            how.later[left.get(0)] = d;
            ways(how, left.subList(1, left.size()), j, found);
        }
    }

    int fits(int s) {
        if (!in(s, 0, 3)) {
            return BAD;
        }
        if (sheetRow[s] == null) {
            return found(1);
        }
        int bits = 0;
        for (int b = 0; b < 9; b++) {
            How how = how();
            how.rule = b / 3;
            how.lending = b % 3;
            Result r = run(how);
            boolean fits = true;
            for (int t = 0; t < ticks && t < sheetRow[s].length; t++) {
                int item = sheetRow[s][t];
                int first = r.chosen.get(t).isEmpty() ? NONE : r.chosen.get(t).get(0);
                fits &= item < -1 || item > 7 || item == first;
            }
            bits |= fits ? 1 << b : 0;
        }
        return bits;
    }

    int mended(int what) {
        if (!in(what, 0, 4)) {
            return BAD;
        }
        int[] found = (int[]) memory.computeIfAbsent("mended", key -> mending());
        return what == 0 ? found[0] : found[0] == NONE ? NOT : found[what];
    }

    int[] mending() {
        List<int[]> found = new ArrayList<>();
        for (int r = 0; r < 3; r++) {
            for (int l = 0; l < 3; l++) {
                for (int a = NONE; a < 8; a++) {
                    for (int b = a; b < 8; b++) {
                        int changes = (r == rule ? 0 : 1) + (l == lending ? 0 : 1) + (a == NONE ? 0 : 1);
                        if (changes > 2 || (a == NONE) != (b == NONE) || a != NONE && (a == b || !are().contains(a) || !are().contains(b))) {
                            continue;
                        }
                        How how = how();
                        how.rule = r;
                        how.lending = l;
                        if (a != NONE) {
                            how.rank[a] = rank[b];
                            how.rank[b] = rank[a];
                        }
                        Result result = run(how);
                        if (result.late() == 0 && result.ringTick == NONE) {
                            found.add(new int[] {changes, r, l, a, b});
                        }
                    }
                }
            }
        }
        found.sort(Comparator.comparing((int[] f) -> f[0]).thenComparing(f -> f[1]).thenComparing(f -> f[2])
            .thenComparing(f -> f[3]).thenComparing(f -> f[4]));
        return found.isEmpty() ? new int[] {NONE, NONE, NONE, NONE, NONE} : found.get(0);
    }

    // ---- sheets

    int found(int number) {
        finding = number;
        return -10 - number;
    }

    int sheet(int s, int type, int n) {
        if (!in(s, 0, 3) || !in(type, 0, 2) || n > 60) {
            return BAD;
        }
        if (n < 0) {
            return found(5);
        }
        sheetType[s] = type;
        sheetRow[s] = new int[n];
        return n;
    }

    int lose(int s) {
        if (!in(s, 0, 3)) {
            return BAD;
        }
        if (sheetRow[s] == null) {
            return found(1);
        }
        int n = sheetRow[s].length;
        sheetRow[s] = null;
        return n;
    }

    int trouble(int s, int type, int i) {
        return sheetRow[s] == null ? 1 : sheetType[s] != type ? 3 : in(i, 0, sheetRow[s].length - 1) ? 0 : 2;
    }

    static int trimmed(int type, int v) {
        return type == 0 ? (byte) v : type == 1 ? (short) v : v;
    }

    int put(int s, int type, int i, int v) {
        if (!in(s, 0, 3) || !in(type, 0, 2)) {
            return BAD;
        }
        int trouble = trouble(s, type, i);
        if (trouble != 0) {
            return found(trouble);
        }
        sheetRow[s][i] = trimmed(type, v);
        return 1;
    }

    int get(int s, int type, int i) {
        if (!in(s, 0, 3) || !in(type, 0, 2)) {
            return Integer.MIN_VALUE;
        }
        int trouble = trouble(s, type, i);
        if (trouble != 0) {
            found(trouble);
            return Integer.MIN_VALUE;
        }
        return sheetRow[s][i];
    }

    int copy(int s, int i, int t, int j, int n) {
        if (!in(s, 0, 3) || !in(t, 0, 3)) {
            return BAD;
        }
        if (sheetRow[s] == null || sheetRow[t] == null) {
            return found(1);
        }
        if (sheetType[s] != sheetType[t]) {
            return found(4);
        }
        if (i < 0 || j < 0 || n < 0 || (long) i + n > sheetRow[s].length || (long) j + n > sheetRow[t].length) {
            return found(2);
        }
        int[] row = sheetRow[s].clone();
        for (int k = 0; k < n; k++) {
            sheetRow[t][j + k] = row[i + k];
        }
        return 1;
    }

    int write(int s) {
        if (!in(s, 0, 3)) {
            return BAD;
        }
        if (sheetRow[s] == null) {
            return found(1);
        }
        int t = 0;
        for (; t < sheetRow[s].length && t < ticks; t++) {
            sheetRow[s][t] = trimmed(sheetType[s], who(t, 0));
        }
        return t;
    }

    int count(int what) {
        if (!in(what, 0, 8)) {
            return BAD;
        }
        int[] all = {things.size(), bits(are()), texts.stream().mapToInt(List::size).sum(), bits(dropped),
            rule, lending, hands, ticks, finding};
        return all[what];
    }

    long digest() {
        List<Integer> all = new ArrayList<>();
        for (int i = 0; i < 8; i++) {
            all.add(count(i));
        }
        for (int i = 0; i < 8; i++) {
            all.add(fault(i));
            for (int w = 0; w < 7; w++) {
                all.add(told(i, w));
            }
        }
        for (int t = 0; t < ticks; t++) {
            all.add(who(t, 0));
        }
        all.addAll(Arrays.asList(late(), ring(0), ring(1)));
        long h = 17;
        for (int v : all) {
            h = h * 31 + v;
        }
        return h;
    }
}
