/**
 * Cooks that share things: tasks as texts of steps, a run by ticks, bounds, searches over runs, logs and sheets.
 * All rows are made in the constructor and used again, so that no call makes an object.
 */
public final class OneKnife {
    public static final int NONE = -1, BAD = -2, NOT = -3, FULL = -4;

    private static final int TASKS = 8;
    private static final int THINGS = 6;
    private static final int LONGEST_TEXT = 60;
    // A text of 60 bytes has room for 17 steps.
    private static final int MOST_STEPS = 20;
    private static final int MOST_TICKS = 120;
    private static final int MOST_HANDS = 3;
    private static final int GREATEST = 99;
    private static final int SHEETS = 4;
    private static final int MOST_ITEMS = 60;
    private static final int MOST_TO_ORDER = 5;
    private static final int MOST_TO_DELAY = 4;
    private static final int ORDERS = 120;
    private static final int MOST_LONGER = 20;
    private static final int MOST_BOUND = 400;
    private static final int NO_ITEM = -2147483648;

    private static final int SCALE = 1, FIRE = 2;
    private static final int WORK = 1, TAKE = 2, GIVE = 3;
    private static final int BY_RANK = 0, BY_END = 1, BY_TURNS = 2;
    private static final int UPWARD = 2;
    private static final int NULL = 1, INDEX = 2, CAST = 3, STORE = 4, SIZE = 5;

    private final Things things = new Things();
    private final Plan[] plans = new Plan[TASKS];
    private final Setting setting = new Setting();
    private final Reckoner reckoner;
    private final Run run;
    private final Search search;
    private final Sheet[] sheets = new Sheet[SHEETS];
    private boolean hasRun;
    private int dropped;
    private int finding;

    public OneKnife() {
        for (int i = 0; i < TASKS; i++) {
            plans[i] = new Plan();
        }
        for (int s = 0; s < SHEETS; s++) {
            sheets[s] = new Sheet();
        }
        reckoner = new Reckoner(things, plans, setting);
        run = new Run(things, plans);
        search = new Search(setting, new Run(things, plans));
    }

    // ---- things, tasks

    public int thing(int kind, int many) {
        if (kind < 0 || kind > FIRE) {
            return BAD;
        }
        boolean fits = kind == SCALE ? many == 2 || many == 3 : many == 1;
        if (!fits) {
            return BAD;
        }
        if (things.number >= THINGS) {
            return FULL;
        }
        int number = things.more(kind, many);
        for (int i = 0; i < TASKS; i++) {
            plans[i].read(things.number);
        }
        change();
        return number;
    }

    public int broken(int thing, int from, int till) {
        if (thing < 0 || thing >= things.number || !isTickEver(from) || !isTickEver(till)) {
            return BAD;
        }
        things.breakIt(thing, from, till);
        change();
        return 1;
    }

    public int type(int task, int b) {
        if (!isTask(task) || b < 0 || b > 255) {
            return BAD;
        }
        Plan plan = plans[task];
        if (plan.length >= LONGEST_TEXT) {
            return FULL;
        }
        plan.append(b);
        plan.read(things.number);
        change();
        return plan.length;
    }

    public int wipe(int task) {
        if (!isTask(task)) {
            return BAD;
        }
        Plan plan = plans[task];
        int length = plan.length;
        plan.length = 0;
        plan.read(things.number);
        change();
        return length;
    }

    public int fault(int task) {
        return isTask(task) ? plans[task].fault : BAD;
    }

    public int about(int task, int what) {
        if (!isTask(task) || what < 0 || what > 8) {
            return BAD;
        }
        Plan plan = plans[task];
        if (what <= 5 && plan.fault != NONE) {
            return NOT;
        }
        switch (what) {
            case 0: return plan.span;
            case 1: return plan.due;
            case 2: return plan.beginning;
            case 3: return plan.work;
            case 4: return plan.steps;
            case 5: return plan.held;
            case 6: return setting.rank[task];
            case 7: return setting.worth[task];
            default: return setting.has(task) ? 1 : 0;
        }
    }

    public int set(int task, int what, int v) {
        if (!isTask(task) || what < 0 || what > 1 || v < 0 || v > GREATEST) {
            return BAD;
        }
        int[] row = what == 0 ? setting.rank : setting.worth;
        int was = row[task];
        row[task] = v;
        change();
        return was;
    }

    public int drop(int task, boolean is) {
        if (!isTask(task)) {
            return BAD;
        }
        if (((dropped >> task & 1) != 0) == is) {
            return 0;
        }
        dropped ^= 1 << task;
        change();
        return 1;
    }

    public int rule(int what, int v) {
        if (what < 0 || what > 3 || v < leastOfRule(what) || v > mostOfRule(what)) {
            return BAD;
        }
        int was = setting.partOf(what);
        setting.changePart(what, v);
        change();
        return was;
    }

    // ---- a run

    public int who(int tick, int n) {
        if (!isTick(tick) || n < 0 || n >= setting.hands) {
            return BAD;
        }
        goOnce();
        return run.chosenAt(tick, n);
    }

    public int state(int task, int tick) {
        if (!isTask(task) || !isTick(tick)) {
            return BAD;
        }
        goOnce();
        return run.stateOf(task, tick);
    }

    public int done(int task, int i) {
        if (!isTask(task) || i < 0) {
            return BAD;
        }
        goOnce();
        return run.cooks[task].doneOf(i);
    }

    public int told(int task, int what) {
        if (!isTask(task) || what < 0 || what > 6) {
            return BAD;
        }
        goOnce();
        Cook cook = run.cooks[task];
        switch (what) {
            case 0: return cook.came;
            case 1: return cook.doneJobs();
            case 2: return cook.lateJobs(setting.ticks);
            case 3: return cook.longestResponse();
            case 4: return run.ticksIn(run.workers, task);
            case 5: return run.ticksIn(run.waiters, task);
            default: return run.ticksBehind(task, setting.lesser(task));
        }
    }

    public int late() {
        goOnce();
        int sum = 0;
        for (int i = 0; i < TASKS; i++) {
            sum += run.cooks[i].lateJobs(setting.ticks);
        }
        return sum;
    }

    public int ring(int what) {
        if (what < 0 || what > 1) {
            return BAD;
        }
        goOnce();
        return what == 0 ? run.ringTick : run.ringBits;
    }

    // ---- bounds, ranks

    public int bound(int task) {
        if (!isTask(task)) {
            return BAD;
        }
        return reckoner.canReckon(task) ? reckoner.boundOf(task) : NOT;
    }

    public int held(int task) {
        if (!isTask(task)) {
            return BAD;
        }
        return reckoner.canReckon(task) ? reckoner.heldOf(task) : NOT;
    }

    public int best(int i) {
        int number = Integer.bitCount(setting.are);
        if (i < 0 || i >= number) {
            return BAD;
        }
        if (number > MOST_TO_ORDER) {
            return FULL;
        }
        search.findBest();
        return search.bestAt(i);
    }

    public int slack(int task, int step) {
        if (!isTask(task) || plans[task].kindAt(step) != WORK) {
            return BAD;
        }
        return setting.has(task) ? search.slackOf(task, step) : NOT;
    }

    public int shed(int what) {
        if (what < 0 || what > 1) {
            return BAD;
        }
        search.findShed();
        return what == 0 ? search.shedBits : search.shedWorth;
    }

    public int whatever(int task, int j, int what) {
        if (!isTask(task) || j < 1 || j > 3 || what < 0 || what > 1) {
            return BAD;
        }
        if (Integer.bitCount(setting.are) > MOST_TO_DELAY) {
            return FULL;
        }
        search.findWhatever(j);
        return what == 0 ? search.longest[task] : search.lateWays;
    }

    // ---- logs, mending

    public int fits(int s) {
        if (!isSheet(s)) {
            return BAD;
        }
        return sheets[s].lost ? find(NULL) : search.fitting(sheets[s]);
    }

    public int mended(int what) {
        if (what < 0 || what > 4) {
            return BAD;
        }
        search.findMended();
        if (what > 0 && search.mending[0] == NONE) {
            return NOT;
        }
        return search.mending[what];
    }

    // ---- sheets

    public int sheet(int s, int type, int n) {
        if (!isSheet(s) || !isType(type) || n > MOST_ITEMS) {
            return BAD;
        }
        if (n < 0) {
            return find(SIZE);
        }
        sheets[s].renew(type, n);
        return n;
    }

    public int lose(int s) {
        if (!isSheet(s)) {
            return BAD;
        }
        Sheet sheet = sheets[s];
        if (sheet.lost) {
            return find(NULL);
        }
        sheet.lost = true;
        return sheet.size;
    }

    public int put(int s, int type, int i, int v) {
        if (!isSheet(s) || !isType(type)) {
            return BAD;
        }
        int fault = sheets[s].faultOf(type, i);
        if (fault != NONE) {
            return find(fault);
        }
        sheets[s].become(i, v);
        return 1;
    }

    public int get(int s, int type, int i) {
        if (!isSheet(s) || !isType(type)) {
            return NO_ITEM;
        }
        int fault = sheets[s].faultOf(type, i);
        if (fault != NONE) {
            finding = fault;
            return NO_ITEM;
        }
        return sheets[s].itemAt(i);
    }

    public int copy(int s, int i, int t, int j, int n) {
        if (!isSheet(s) || !isSheet(t)) {
            return BAD;
        }
        Sheet from = sheets[s];
        Sheet to = sheets[t];
        if (from.lost || to.lost) {
            return find(NULL);
        }
        if (from.type != to.type) {
            return find(STORE);
        }
        if (!from.hasRow(i, n) || !to.hasRow(j, n)) {
            return find(INDEX);
        }
        System.arraycopy(from.items, i, to.items, j, n);
        return 1;
    }

    public int write(int s) {
        if (!isSheet(s)) {
            return BAD;
        }
        Sheet sheet = sheets[s];
        if (sheet.lost) {
            return find(NULL);
        }
        goOnce();
        int number = Math.min(sheet.size, setting.ticks);
        for (int t = 0; t < number; t++) {
            sheet.become(t, run.chosenAt(t, 0));
        }
        return number;
    }

    public int count(int what) {
        switch (what) {
            case 0: return things.number;
            case 1: return setting.are;
            case 2: return bytes();
            case 3: return dropped;
            case 4: case 5: case 6: case 7: return setting.partOf(what - 4);
            case 8: return finding;
            default: return BAD;
        }
    }

    public long digest() {
        long h = 17;
        for (int what = 0; what <= 7; what++) {
            h = 31 * h + count(what);
        }
        for (int i = 0; i < TASKS; i++) {
            h = 31 * h + fault(i);
            for (int what = 0; what <= 6; what++) {
                h = 31 * h + told(i, what);
            }
        }
        for (int t = 0; t < setting.ticks; t++) {
            h = 31 * h + who(t, 0);
        }
        h = 31 * h + late();
        h = 31 * h + ring(0);
        return 31 * h + ring(1);
    }

    private static boolean isTask(int task) {
        return task >= 0 && task < TASKS;
    }

    private static boolean isSheet(int s) {
        return s >= 0 && s < SHEETS;
    }

    private static boolean isType(int type) {
        return type >= 0 && type <= 2;
    }

    private static boolean isTickEver(int tick) {
        return tick >= 0 && tick < MOST_TICKS;
    }

    private static int leastOfRule(int what) {
        return what <= 1 ? 0 : 1;
    }

    private static int mostOfRule(int what) {
        if (what <= 1) {
            return 2;
        }
        return what == 2 ? MOST_HANDS : MOST_TICKS;
    }

    private boolean isTick(int tick) {
        return tick >= 0 && tick < setting.ticks;
    }

    private int find(int number) {
        finding = number;
        return -10 - number;
    }

    private int bytes() {
        int sum = 0;
        for (int i = 0; i < TASKS; i++) {
            sum += plans[i].length;
        }
        return sum;
    }

    /** What was found by runs does not hold any longer. */
    private void change() {
        int are = 0;
        for (int i = 0; i < TASKS; i++) {
            if (plans[i].fault == NONE && (dropped >> i & 1) == 0) {
                are |= 1 << i;
            }
        }
        setting.are = are;
        hasRun = false;
        search.forget();
    }

    private void goOnce() {
        if (!hasRun) {
            run.go(setting, setting.ticks, false);
            hasRun = true;
        }
    }

    /** THINGS: how many may have each, and when it is broken. */
    private static final class Things {
        private int number;
        private int fires;
        private final int[] many = new int[THINGS];
        private final int[] from = new int[THINGS];
        private final int[] till = new int[THINGS];

        private int more(int kind, int howMany) {
            if (number < 0 || number >= THINGS) {
                return NONE;
            }
            many[number] = howMany;
            breakIt(number, 1, 0);
            if (kind == FIRE) {
                fires |= 1 << number;
            }
            number++;
            return number - 1;
        }

        private void breakIt(int thing, int first, int last) {
            if (thing >= 0 && thing < THINGS) {
                from[thing] = first;
                till[thing] = last;
            }
        }

        /** As bits, those that are broken in a TICK. */
        private int brokenIn(int tick) {
            int bits = 0;
            for (int i = 0; i < number && i < THINGS; i++) {
                if (from[i] <= tick && tick <= till[i]) {
                    bits |= 1 << i;
                }
            }
            return bits;
        }
    }

    /** The text of a TASK and what it says. */
    private static final class Plan {
        private final int[] text = new int[LONGEST_TEXT];
        private int length;
        private int at;
        private int fault;
        private int span;
        private int due;
        private int beginning;
        private final int[] kinds = new int[MOST_STEPS];
        private final int[] figures = new int[MOST_STEPS];
        private int steps;
        private int work;
        // As bits: what it takes anywhere, and what it has behind the steps read so far.
        private int takes;
        private int held;

        private void append(int b) {
            if (length >= 0 && length < LONGEST_TEXT) {
                text[length] = b;
                length++;
            }
        }

        private void read(int thingsThere) {
            at = 0;
            fault = NONE;
            clearSteps();
            span = readNumber('p', 1, 60);
            pass(',');
            due = readNumber('d', 1, GREATEST);
            pass(',');
            beginning = readNumber('o', 0, GREATEST);
            pass(':');
            readStep(thingsThere);
            for (int n = 1; n < MOST_STEPS && fault == NONE && at < length; n++) {
                pass(',');
                readStep(thingsThere);
            }
            if (fault == NONE && work == 0) {
                fault = length;
            }
            if (fault != NONE) {
                clearSteps();
            }
        }

        private void clearSteps() {
            steps = 0;
            work = 0;
            takes = 0;
            held = 0;
        }

        private int byteAt(int place) {
            return place >= 0 && place < length && place < LONGEST_TEXT ? text[place] : NONE;
        }

        private int figureAt(int place) {
            int b = byteAt(place);
            return b >= '0' && b <= '9' ? b - '0' : NONE;
        }

        private void pass(char sign) {
            if (fault != NONE) {
                return;
            }
            if (byteAt(at) == sign) {
                at++;
            } else {
                fault = at;
            }
        }

        private int readNumber(char letter, int least, int most) {
            pass(letter);
            if (fault != NONE) {
                return 0;
            }
            int first = at;
            int value = 0;
            for (int n = 0; n < 2 && figureAt(at) != NONE; n++) {
                value = value * 10 + figureAt(at);
                at++;
            }
            if (at == first || value < least || value > most) {
                fault = first;
            }
            return value;
        }

        private void readStep(int thingsThere) {
            if (fault != NONE) {
                return;
            }
            int kind = kindOfSign(byteAt(at));
            if (kind == NONE) {
                fault = at;
                return;
            }
            int figure = figureAt(at + 1);
            if (!mayBe(kind, figure, thingsThere)) {
                fault = at + 1;
                return;
            }
            at += 2;
            keepStep(kind, figure);
        }

        private static int kindOfSign(int b) {
            if (b == 'w') {
                return WORK;
            }
            if (b == 't') {
                return TAKE;
            }
            return b == 'g' ? GIVE : NONE;
        }

        private boolean mayBe(int kind, int figure, int thingsThere) {
            if (kind == WORK) {
                return figure >= 1;
            }
            if (figure < 0 || figure >= thingsThere) {
                return false;
            }
            boolean has = (held >> figure & 1) != 0;
            return has == (kind == GIVE);
        }

        private void keepStep(int kind, int figure) {
            if (steps < 0 || steps >= MOST_STEPS) {
                return;
            }
            kinds[steps] = kind;
            figures[steps] = figure;
            steps++;
            if (kind == WORK) {
                work += figure;
            } else if (kind == TAKE) {
                takes |= 1 << figure;
                held |= 1 << figure;
            } else {
                held &= ~(1 << figure);
            }
        }

        private int kindAt(int step) {
            return step >= 0 && step < steps && step < MOST_STEPS ? kinds[step] : NONE;
        }

        private int figureOfStep(int step) {
            return step >= 0 && step < steps && step < MOST_STEPS ? figures[step] : 0;
        }

        /** The most WORK from where it takes one of some things to where it gives it back, or the end. */
        private int longestHold(int among) {
            int most = 0;
            for (int k = 0; k < steps; k++) {
                if (kindAt(k) == TAKE && (among >> figureOfStep(k) & 1) != 0) {
                    most = Math.max(most, workHolding(k));
                }
            }
            return most;
        }

        private int workHolding(int step) {
            int thing = figureOfStep(step);
            int sum = 0;
            for (int k = step + 1; k < steps; k++) {
                int kind = kindAt(k);
                if (kind == GIVE && figureOfStep(k) == thing) {
                    return sum;
                }
                if (kind == WORK) {
                    sum += figureOfStep(k);
                }
            }
            return sum;
        }
    }

    /** What a run goes by, besides things and texts. */
    private static final class Setting {
        private int are;
        private final int[] rank = new int[TASKS];
        private final int[] worth = new int[TASKS];
        private final int[] later = new int[TASKS];
        private int rule;
        private int lending;
        private int hands = 1;
        private int ticks = 60;
        private int longTask = NONE;
        private int longStep = NONE;
        private int longerBy;

        private Setting() {
            for (int i = 0; i < TASKS; i++) {
                rank[i] = 10 - i;
                worth[i] = 1;
            }
        }

        private void become(Setting other) {
            are = other.are;
            for (int i = 0; i < TASKS; i++) {
                rank[i] = other.rank[i];
                worth[i] = other.worth[i];
                later[i] = other.later[i];
            }
            rule = other.rule;
            lending = other.lending;
            hands = other.hands;
            ticks = other.ticks;
            longTask = other.longTask;
            longStep = other.longStep;
            longerBy = other.longerBy;
        }

        /** 0 RULE, 1 LENDING, 2 HANDS, 3 TICKS. */
        private int partOf(int what) {
            switch (what) {
                case 0: return rule;
                case 1: return lending;
                case 2: return hands;
                default: return ticks;
            }
        }

        private void changePart(int what, int v) {
            switch (what) {
                case 0: rule = v; break;
                case 1: lending = v; break;
                case 2: hands = v; break;
                default: ticks = v;
            }
        }

        private boolean has(int task) {
            return (are >> task & 1) != 0;
        }

        /** Whether a run can go otherwise by other RANKS. */
        private boolean goesByRanks() {
            return rule == BY_RANK || lending == UPWARD;
        }

        private int rankOf(int task) {
            return isTask(task) ? rank[task] : 0;
        }

        /** The TASKS of lesser RANK, as bits. */
        private int lesser(int task) {
            int bits = 0;
            for (int i = 0; i < TASKS; i++) {
                if (rank[i] < rankOf(task)) {
                    bits |= 1 << i;
                }
            }
            return bits;
        }

        private boolean goesAhead(int one, int other) {
            if (one == other || !has(one)) {
                return false;
            }
            int difference = rankOf(one) - rankOf(other);
            return difference > 0 || difference == 0 && one < other;
        }
    }

    /** BOUND and HELD, reckoned without running. */
    private static final class Reckoner {
        private final Things things;
        private final Plan[] plans;
        private final Setting setting;

        private Reckoner(Things things, Plan[] plans, Setting setting) {
            this.things = things;
            this.plans = plans;
            this.setting = setting;
        }

        private boolean canReckon(int task) {
            return setting.rule == BY_RANK && setting.lending == UPWARD && setting.hands == 1 && setting.has(task);
        }

        private Plan planOf(int task) {
            return plans[isTask(task) ? task : 0];
        }

        private int heldOf(int task) {
            int among = things.fires | planOf(task).takes;
            for (int i = 0; i < TASKS; i++) {
                if (setting.goesAhead(i, task)) {
                    among |= plans[i].takes;
                }
            }
            int most = 0;
            for (int i = 0; i < TASKS; i++) {
                if (i != task && setting.has(i) && !setting.goesAhead(i, task)) {
                    most = Math.max(most, plans[i].longestHold(among));
                }
            }
            return most;
        }

        private int boundOf(int task) {
            int own = planOf(task).work + heldOf(task);
            int r = own;
            for (int n = 0; n <= MOST_BOUND && r <= MOST_BOUND; n++) {
                int next = own + workAhead(task, r);
                if (next == r) {
                    return r;
                }
                r = next;
            }
            return NONE;
        }

        private int workAhead(int task, int r) {
            int sum = 0;
            for (int i = 0; i < TASKS; i++) {
                if (setting.goesAhead(i, task)) {
                    int span = Math.max(1, plans[i].span);
                    sum += plans[i].work * ((r + span - 1) / span);
                }
            }
            return sum;
        }
    }

    /** A TASK in a run: its jobs, where it stands in its steps, what it has, for whom it waits. */
    private static final class Cook {
        private final Plan plan;
        private final int[] doneAt = new int[MOST_TICKS];
        private int beginning;
        private int rank;
        private int longStep;
        private int longerBy;
        private int came;
        private int begun;
        private int job = NONE;
        private int due;
        private int step;
        private int spent;
        private int has;
        private int waitsFor;
        private int reaches;
        private int key;
        private int worked;
        // UPWARD: the things of which another one's having bars this one from taking any.
        private int barring;

        private Cook(Plan plan) {
            this.plan = plan;
        }

        private void begin(int firstTick, int itsRank) {
            beginning = firstTick;
            rank = itsRank;
            longStep = NONE;
            longerBy = 0;
            came = 0;
            begun = 0;
            job = NONE;
            has = 0;
            worked = NONE;
            barring = 0;
        }

        private int comingOf(int which) {
            return beginning + which * plan.span;
        }

        private int dueOf(int which) {
            return beginning + which * plan.span + plan.due;
        }

        private void meetJobs(int tick) {
            if (tick == comingOf(came) && came >= 0 && came < MOST_TICKS) {
                doneAt[came] = NONE;
                came++;
            }
            if (job == NONE && begun < came) {
                job = begun;
                begun++;
                due = dueOf(job);
                step = 0;
                spent = 0;
            }
        }

        private void setKey(int rule) {
            if (rule == BY_RANK) {
                key = -rank;
            } else {
                key = rule == BY_END ? due : worked;
            }
        }

        /** Works a TICK and gives back what comes next; true, if its STEPS are at an end. */
        private boolean worksOn() {
            spent++;
            int whole = plan.figureOfStep(step);
            if (step == longStep) {
                whole += longerBy;
            }
            if (spent < whole) {
                return false;
            }
            spent = 0;
            step++;
            for (int k = step; k < MOST_STEPS && plan.kindAt(k) == GIVE; k++) {
                has &= ~(1 << plan.figureOfStep(k));
                step = k + 1;
            }
            return step >= plan.steps;
        }

        private void endJob(int when) {
            if (job >= 0 && job < MOST_TICKS) {
                doneAt[job] = when;
            }
            job = NONE;
            has = 0;
        }

        private int doneOf(int which) {
            return which >= 0 && which < came && which < MOST_TICKS ? doneAt[which] : NONE;
        }

        private int doneJobs() {
            int sum = 0;
            for (int i = 0; i < came; i++) {
                if (doneOf(i) != NONE) {
                    sum++;
                }
            }
            return sum;
        }

        private int lateJobs(int ticks) {
            int sum = 0;
            for (int i = 0; i < came; i++) {
                int when = doneOf(i);
                if (when == NONE ? dueOf(i) <= ticks : when > dueOf(i)) {
                    sum++;
                }
            }
            return sum;
        }

        private int longestResponse() {
            int most = NONE;
            for (int i = 0; i < came; i++) {
                int when = doneOf(i);
                if (when != NONE) {
                    most = Math.max(most, when - comingOf(i));
                }
            }
            return most;
        }

        /** Jobs are done in their order, so the first one not done tells whether one of them is late at the end. */
        private boolean isBehind(int ticks) {
            int first = job == NONE ? begun : job;
            return first < came && dueOf(first) <= ticks;
        }
    }

    /** A run by ticks, and what is kept of it. */
    private static final class Run {
        private final Things things;
        private final Cook[] cooks = new Cook[TASKS];
        // Of each TICK, as bits, as it was when all were chosen: at WORK, WAITING, with a JOB that goes on.
        private final int[] workers = new int[MOST_TICKS];
        private final int[] waiters = new int[MOST_TICKS];
        private final int[] goers = new int[MOST_TICKS];
        private final int[] chosen = new int[MOST_TICKS * MOST_HANDS];
        private int are;
        private int rule;
        private int lending;
        private int hands;
        private int ticks;
        private int going;
        private int working;
        private int waiting;
        private int brokenNow;
        private int ringTick = NONE;
        private int ringBits;
        private boolean someLate;

        private Run(Things things, Plan[] plans) {
            this.things = things;
            for (int i = 0; i < TASKS && i < plans.length; i++) {
                cooks[i] = new Cook(plans[i]);
            }
        }

        /** Runs so many TICKS; if asked, no farther than until something is LATE for certain. */
        private void go(Setting by, int length, boolean untilLate) {
            begin(by, length);
            for (int t = 0; t < ticks; t++) {
                meetJobs(t);
                choose(t);
                note(t);
                work(t);
                if (untilLate && someLate) {
                    return;
                }
            }
            for (int i = 0; i < TASKS; i++) {
                if (cooks[i].isBehind(ticks)) {
                    someLate = true;
                }
            }
        }

        private void begin(Setting by, int length) {
            are = by.are;
            rule = by.rule;
            lending = by.lending;
            hands = Math.min(by.hands, MOST_HANDS);
            ticks = Math.min(length, MOST_TICKS);
            ringTick = NONE;
            ringBits = 0;
            someLate = false;
            for (int i = 0; i < TASKS; i++) {
                Cook cook = cooks[i];
                cook.begin(cook.plan.beginning + by.later[i], by.rank[i]);
                if (i == by.longTask) {
                    cook.longStep = by.longStep;
                    cook.longerBy = by.longerBy;
                }
            }
            if (lending == UPWARD) {
                bar();
            }
        }

        private void bar() {
            for (int i = 0; i < TASKS; i++) {
                for (int k = 0; k < TASKS; k++) {
                    if ((are >> k & 1) != 0 && cooks[k].rank >= cooks[i].rank) {
                        cooks[i].barring |= cooks[k].plan.takes;
                    }
                }
            }
        }

        private void meetJobs(int t) {
            going = 0;
            for (int i = 0; i < TASKS; i++) {
                if ((are >> i & 1) != 0) {
                    Cook cook = cooks[i];
                    cook.meetJobs(t);
                    cook.setKey(rule);
                    if (cook.job != NONE) {
                        going |= 1 << i;
                    }
                }
            }
        }

        /** Each try leaves its TASK at WORK, WAITING or without a JOB, so there are no more tries than TASKS. */
        private void choose(int t) {
            working = 0;
            waiting = 0;
            brokenNow = things.brokenIn(t);
            for (int h = 0; h < MOST_HANDS; h++) {
                chosen[h * MOST_TICKS + t] = NONE;
            }
            int hand = 0;
            for (int n = 0; n < TASKS && hand < hands; n++) {
                int task = next();
                if (!isTask(task)) {
                    return;
                }
                switch (goOn(task)) {
                    case WORK:
                        working |= 1 << task;
                        cooks[task].worked = t;
                        chosen[hand * MOST_TICKS + t] = task;
                        hand++;
                        break;
                    case TAKE:
                        waiting |= 1 << task;
                        lend();
                        break;
                    default:
                        end(task, t);
                }
            }
        }

        private int next() {
            int open = going & ~working & ~waiting;
            int best = NONE;
            int bestKey = 0;
            boolean bestHasFire = false;
            for (int i = 0; i < TASKS; i++) {
                if ((open >> i & 1) == 0) {
                    continue;
                }
                Cook cook = cooks[i];
                boolean hasFire = (cook.has & things.fires) != 0;
                boolean ahead = hasFire == bestHasFire ? cook.key < bestKey : hasFire;
                if (best == NONE || ahead) {
                    best = i;
                    bestKey = cook.key;
                    bestHasFire = hasFire;
                }
            }
            return best;
        }

        /** Takes and gives back as far as it may: tells the kind of step it comes to, NONE at the end of its steps. */
        private int goOn(int task) {
            Cook cook = cooks[task];
            Plan plan = cook.plan;
            for (int k = cook.step; k < plan.steps; k++) {
                cook.step = k;
                int kind = plan.kindAt(k);
                if (kind == WORK) {
                    return WORK;
                }
                int thing = plan.figureOfStep(k);
                if (kind == GIVE) {
                    cook.has &= ~(1 << thing);
                } else if (mustWait(task, thing)) {
                    return TAKE;
                } else {
                    cook.has |= 1 << thing;
                }
            }
            return NONE;
        }

        /** Whether a TASK may not take a thing; then it also knows for whom it waits. */
        private boolean mustWait(int task, int thing) {
            Cook cook = cooks[task];
            int holders = 0;
            int number = 0;
            int barrers = 0;
            for (int i = 0; i < TASKS; i++) {
                if (i == task) {
                    continue;
                }
                if ((cooks[i].has >> thing & 1) != 0) {
                    holders |= 1 << i;
                    number++;
                }
                if ((cooks[i].has & cook.barring) != 0) {
                    barrers |= 1 << i;
                }
            }
            boolean taken = thing < 0 || thing >= THINGS || number >= things.many[thing];
            cook.waitsFor = taken ? holders | barrers : barrers;
            return taken || barrers != 0 || (brokenNow >> thing & 1) != 0;
        }

        /** Keys in force: who is waited for goes by the least key of those that wait, and of those that wait for them. */
        private void lend() {
            if (lending == 0 || rule == BY_TURNS) {
                return;
            }
            boolean changed = true;
            for (int round = 0; round < TASKS && changed; round++) {
                changed = false;
                for (int i = 0; i < TASKS; i++) {
                    if ((waiting >> i & 1) != 0 && lendFrom(cooks[i])) {
                        changed = true;
                    }
                }
            }
        }

        private boolean lendFrom(Cook cook) {
            boolean changed = false;
            for (int i = 0; i < TASKS; i++) {
                if ((cook.waitsFor >> i & 1) != 0 && cooks[i].key > cook.key) {
                    cooks[i].key = cook.key;
                    changed = true;
                }
            }
            return changed;
        }

        private void end(int task, int when) {
            Cook cook = cooks[task];
            if (when > cook.due) {
                someLate = true;
            }
            cook.endJob(when);
            going &= ~(1 << task);
        }

        private void note(int t) {
            if (!isTickEver(t)) {
                return;
            }
            workers[t] = working;
            waiters[t] = waiting;
            goers[t] = going;
            // A ring has two at least.
            if (ringTick == NONE && (waiting & (waiting - 1)) != 0) {
                lookForRing(t);
            }
        }

        private void lookForRing(int t) {
            for (int i = 0; i < TASKS; i++) {
                cooks[i].reaches = (waiting >> i & 1) != 0 ? cooks[i].waitsFor : 0;
            }
            for (int k = 0; k < TASKS; k++) {
                for (int i = 0; i < TASKS; i++) {
                    if ((cooks[i].reaches >> k & 1) != 0) {
                        cooks[i].reaches |= cooks[k].reaches;
                    }
                }
            }
            for (int i = 0; i < TASKS; i++) {
                if ((cooks[i].reaches >> i & 1) != 0) {
                    ringBits |= 1 << i;
                    ringTick = t;
                }
            }
        }

        private void work(int t) {
            for (int i = 0; i < TASKS; i++) {
                if ((working >> i & 1) != 0 && cooks[i].worksOn()) {
                    end(i, t + 1);
                }
                // What is not done by now is done behind this TICK, or not in the run.
                if ((going >> i & 1) != 0 && cooks[i].due <= t) {
                    someLate = true;
                }
            }
        }

        private int chosenAt(int t, int n) {
            return t >= 0 && t < ticks && n >= 0 && n < MOST_HANDS ? chosen[n * MOST_TICKS + t] : NONE;
        }

        private int stateOf(int task, int t) {
            if (t < 0 || t >= ticks || (goers[t] >> task & 1) == 0) {
                return 0;
            }
            if ((workers[t] >> task & 1) != 0) {
                return 1;
            }
            return (waiters[t] >> task & 1) != 0 ? 2 : 3;
        }

        private int ticksIn(int[] row, int task) {
            int sum = 0;
            for (int t = 0; t < ticks && t < row.length; t++) {
                sum += row[t] >> task & 1;
            }
            return sum;
        }

        /** TICKS in which a TASK goes on without WORK while one of some others is at WORK. */
        private int ticksBehind(int task, int others) {
            int sum = 0;
            for (int t = 0; t < ticks; t++) {
                if ((workers[t] & others) != 0) {
                    sum += (goers[t] & ~workers[t]) >> task & 1;
                }
            }
            return sum;
        }
    }

    /** What is found by running again and again, each time by a setting a little other than the one that is set. */
    private static final class Search {
        private final Setting setting;
        private final Setting trial = new Setting();
        private final Run run;
        private boolean bestKnown;
        private boolean bestThere;
        private final int[] order = new int[TASKS];
        private boolean shedKnown;
        private int shedBits;
        private int shedWorth;
        private int shedNumber;
        // By how much later whatever was last found for; 0: for none.
        private int whateverKnown;
        private final int[] longest = new int[TASKS];
        private int lateWays;
        private boolean mendedKnown;
        // How many changes, RULE, LENDING, the first and the second TASK.
        private final int[] mending = new int[5];

        private Search(Setting setting, Run run) {
            this.setting = setting;
            this.run = run;
        }

        private void forget() {
            bestKnown = false;
            shedKnown = false;
            whateverKnown = 0;
            mendedKnown = false;
        }

        private void findBest() {
            if (bestKnown) {
                return;
            }
            bestKnown = true;
            bestThere = false;
            trial.become(setting);
            int number = firstOrder();
            boolean more = true;
            for (int n = 0; n < ORDERS && more; n++) {
                for (int k = 0; k < number; k++) {
                    trial.rank[orderAt(k)] = 90 - k;
                }
                run.go(trial, trial.ticks, true);
                if (!run.someLate) {
                    bestThere = true;
                    return;
                }
                more = trial.goesByRanks() && nextOrder(number);
            }
        }

        private int bestAt(int i) {
            return bestThere ? orderAt(i) : NONE;
        }

        private int orderAt(int k) {
            int task = k >= 0 && k < TASKS ? order[k] : 0;
            return isTask(task) ? task : 0;
        }

        private int firstOrder() {
            int number = 0;
            for (int i = 0; i < TASKS; i++) {
                if (setting.has(i)) {
                    order[number] = i;
                    number++;
                }
            }
            return number;
        }

        /** The next one of all orders, the first TASK compared first; false behind the last one. */
        private boolean nextOrder(int number) {
            int fall = number - 2;
            while (fall >= 0 && orderAt(fall) > orderAt(fall + 1)) {
                fall--;
            }
            if (fall < 0 || number > TASKS) {
                return false;
            }
            int other = number - 1;
            while (other > fall && orderAt(other) < orderAt(fall)) {
                other--;
            }
            swapOrder(fall, other);
            int low = fall + 1;
            int high = number - 1;
            while (low < high) {
                swapOrder(low, high);
                low++;
                high--;
            }
            return true;
        }

        private void swapOrder(int a, int b) {
            if (a >= 0 && a < TASKS && b >= 0 && b < TASKS) {
                int kept = order[a];
                order[a] = order[b];
                order[b] = kept;
            }
        }

        private int slackOf(int task, int step) {
            trial.become(setting);
            trial.longTask = task;
            trial.longStep = step;
            for (int more = 0; more <= MOST_LONGER; more++) {
                trial.longerBy = more;
                run.go(trial, trial.ticks, true);
                if (run.someLate) {
                    return more - 1;
                }
            }
            return MOST_LONGER;
        }

        private void findShed() {
            if (shedKnown) {
                return;
            }
            shedKnown = true;
            trial.become(setting);
            // To drop all of them always serves.
            shedBits = setting.are;
            shedWorth = 0;
            shedNumber = Integer.bitCount(setting.are);
            for (int bits = 0; bits < 1 << TASKS; bits++) {
                if ((bits & ~setting.are) == 0) {
                    tryToShed(bits);
                }
            }
        }

        private void tryToShed(int bits) {
            trial.are = setting.are & ~bits;
            int worth = 0;
            for (int i = 0; i < TASKS; i++) {
                if (trial.has(i)) {
                    worth += trial.worth[i];
                }
            }
            int number = Integer.bitCount(bits);
            if (worth < shedWorth || worth == shedWorth && number >= shedNumber) {
                return;
            }
            run.go(trial, trial.ticks, true);
            if (!run.someLate) {
                shedBits = bits;
                shedWorth = worth;
                shedNumber = number;
            }
        }

        private void findWhatever(int j) {
            if (whateverKnown == j) {
                return;
            }
            whateverKnown = j;
            trial.become(setting);
            lateWays = 0;
            for (int i = 0; i < TASKS; i++) {
                longest[i] = NONE;
            }
            int ways = 1;
            for (int n = Integer.bitCount(setting.are); n > 0; n--) {
                ways *= j + 1;
            }
            for (int way = 0; way < ways; way++) {
                delayBy(way, j + 1);
                run.go(trial, trial.ticks, false);
                if (run.someLate) {
                    lateWays++;
                }
                for (int i = 0; i < TASKS; i++) {
                    longest[i] = Math.max(longest[i], run.cooks[i].longestResponse());
                }
            }
        }

        private void delayBy(int way, int choices) {
            int rest = way;
            for (int i = 0; i < TASKS && choices > 0; i++) {
                if (setting.has(i)) {
                    trial.later[i] = rest % choices;
                    rest /= choices;
                }
            }
        }

        private int fitting(Sheet log) {
            trial.become(setting);
            int bits = 0;
            for (int rule = 0; rule <= 2; rule++) {
                for (int lending = 0; lending <= 2; lending++) {
                    trial.rule = rule;
                    trial.lending = lending;
                    if (goesAs(log)) {
                        bits |= 1 << 3 * rule + lending;
                    }
                }
            }
            return bits;
        }

        private boolean goesAs(Sheet log) {
            int length = Math.min(log.size, trial.ticks);
            run.go(trial, length, false);
            for (int t = 0; t < length; t++) {
                int item = log.itemAt(t);
                boolean seen = item == NONE || isTask(item);
                if (seen && item != run.chosenAt(t, 0)) {
                    return false;
                }
            }
            return true;
        }

        private void findMended() {
            if (mendedKnown) {
                return;
            }
            mendedKnown = true;
            trial.become(setting);
            for (int changes = 0; changes <= 2; changes++) {
                for (int choice = 0; choice < 9; choice++) {
                    trial.rule = choice / 3;
                    trial.lending = choice % 3;
                    int left = changes - changesOfRules();
                    if (left == 0 && mends(changes, NONE, NONE)) {
                        return;
                    }
                    // Where runs do not go by RANKS, one change less would have done the same.
                    boolean byRanks = left == 1 && trial.goesByRanks();
                    for (int pair = 0; byRanks && pair < TASKS * TASKS; pair++) {
                        int a = pair / TASKS;
                        int b = pair % TASKS;
                        if (a < b && setting.has(a) && setting.has(b) && mends(changes, a, b)) {
                            return;
                        }
                    }
                }
            }
            keepMending(NONE, NONE, NONE);
        }

        private int changesOfRules() {
            int number = trial.rule == setting.rule ? 0 : 1;
            return trial.lending == setting.lending ? number : number + 1;
        }

        private boolean mends(int changes, int a, int b) {
            swapRanks(a, b);
            run.go(trial, trial.ticks, true);
            swapRanks(a, b);
            if (run.someLate || run.ringTick != NONE) {
                return false;
            }
            keepMending(changes, a, b);
            return true;
        }

        private void swapRanks(int a, int b) {
            if (isTask(a) && isTask(b)) {
                int kept = trial.rank[a];
                trial.rank[a] = trial.rank[b];
                trial.rank[b] = kept;
            }
        }

        private void keepMending(int changes, int a, int b) {
            mending[0] = changes;
            mending[1] = trial.rule;
            mending[2] = trial.lending;
            mending[3] = a;
            mending[4] = b;
        }
    }

    /** A row of a TYPE, or lost. */
    private static final class Sheet {
        private boolean lost = true;
        private int type;
        private int size;
        private final int[] items = new int[MOST_ITEMS];

        private void renew(int itsType, int n) {
            lost = false;
            type = itsType;
            size = n;
            for (int i = 0; i < MOST_ITEMS; i++) {
                items[i] = 0;
            }
        }

        private int faultOf(int asType, int i) {
            if (lost) {
                return NULL;
            }
            if (asType != type) {
                return CAST;
            }
            return i < 0 || i >= size ? INDEX : NONE;
        }

        private boolean hasRow(int from, int n) {
            return from >= 0 && n >= 0 && n <= size - from;
        }

        private int itemAt(int i) {
            return i >= 0 && i < size && i < MOST_ITEMS ? items[i] : 0;
        }

        private void become(int i, int v) {
            if (i < 0 || i >= size || i >= MOST_ITEMS) {
                return;
            }
            if (type == 0) {
                items[i] = (byte) v;
            } else {
                items[i] = type == 1 ? (short) v : v;
            }
        }
    }
}
