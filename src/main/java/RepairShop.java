/** A workshop whose plan is mended when machines break down; ../shared/DOC.md says what each call promises. */
public final class RepairShop {
    /** There is no such thing. */
    public static final int NONE = -1;

    private static final int LEAST_MACHINES = 2;
    private static final int MOST_MACHINES = 5;
    private static final int FIRST_MACHINES = 3;
    private static final int MOST_JOBS = 6;
    private static final int MOST_WEIGHT = 9;
    private static final int MOST_DUE = 999;
    private static final int MOST_OPERATIONS = 5;
    private static final int SLOTS = MOST_JOBS * MOST_OPERATIONS;
    private static final int MOST_DURATION = 20;
    private static final int MOST_BREAKDOWNS = 6;
    private static final int MOST_BEGIN = 500;
    private static final int MOST_LENGTH = 50;
    private static final int MOST_MOMENT = 999;
    private static final int MOST_UNITS = 99;
    private static final int OVERTIME_COST = 3;

    private static final int SHORTEST_FIRST = 0;
    private static final int EARLIEST_DUE_FIRST = 1;
    private static final int GREATEST_WEIGHT_FIRST = 2;
    private static final int LAST_RULE = 3;

    private static final int LAST_OF_JOB = 5;
    private static final int LAST_OF_OPERATION = 4;
    private static final int LAST_OF_BREAKDOWN = 2;
    private static final int LAST_VALUE = 9;

    private static final int OPERATION_CODE = 10;
    private static final int REPLAN_CODE = 1000000;
    private static final int SYNTAX_ERROR_CODE = -10;
    private static final int MOST_TEXT = 100;
    private static final int MOST_BYTE = 127;
    private static final int MOST_SAVED = 4;
    private static final long DIGEST_START = 3719;
    private static final long DIGEST_FACTOR = 31;

    private final Planner planner;
    private final Shop shop;
    private final History history;
    private final OrderText text;

    public RepairShop() {
        planner = new Planner();
        shop = planner.shop;
        history = new History();
        text = new OrderText();
    }

    // ---- shop

    public int begin(int machines) throws IllegalArgumentException {
        if (!isBetween(machines, LEAST_MACHINES, MOST_MACHINES)) {
            throw new IllegalArgumentException("machines: 2 to 5");
        }
        history.save(shop);
        int jobsBefore = shop.jobs;
        shop.empty(machines);
        return jobsBefore;
    }

    public int addJob(int weight, int due) throws IllegalArgumentException, IllegalStateException {
        if (!isBetween(weight, 1, MOST_WEIGHT) || !isBetween(due, 0, MOST_DUE)) {
            throw new IllegalArgumentException("weight: 1 to 9, due: 0 to 999");
        }
        if (!shop.takesJob()) {
            throw new IllegalStateException("there are 6 jobs");
        }
        history.save(shop);
        return shop.takeJob(weight, due);
    }

    public int addOperation(int job, int machine, int duration)
            throws IndexOutOfBoundsException, IllegalArgumentException, IllegalStateException {
        if (!shop.hasJob(job) || !shop.hasMachine(machine)) {
            throw new IndexOutOfBoundsException("no such job or machine");
        }
        if (!isBetween(duration, 1, MOST_DURATION)) {
            throw new IllegalArgumentException("duration: 1 to 20");
        }
        if (!shop.takesOperation(job)) {
            throw new IllegalStateException("the job has 5 operations");
        }
        history.save(shop);
        return shop.takeOperation(job, machine, duration);
    }

    public int breakDown(int machine, int begin, int length)
            throws IndexOutOfBoundsException, IllegalArgumentException, IllegalStateException {
        if (!shop.hasMachine(machine)) {
            throw new IndexOutOfBoundsException("no such machine");
        }
        if (!isBetween(begin, 0, MOST_BEGIN) || !isBetween(length, 1, MOST_LENGTH)) {
            throw new IllegalArgumentException("begin: 0 to 500, length: 1 to 50");
        }
        if (!shop.takesBreakdown()) {
            throw new IllegalStateException("there are 6 breakdowns");
        }
        history.save(shop);
        return shop.takeBreakdown(machine, begin, length);
    }

    public int repaired() throws IllegalStateException {
        if (shop.breakdowns == 0) {
            throw new IllegalStateException("there is no breakdown");
        }
        history.save(shop);
        shop.breakdowns--;
        return shop.breakdowns;
    }

    public int plan(int rule) throws IllegalArgumentException {
        if (!isRule(rule)) {
            throw new IllegalArgumentException("rule: 0 to 3");
        }
        history.save(shop);
        return takeNewPlan(rule);
    }

    public int shift() throws IllegalStateException {
        if (!shop.planned) {
            throw new IllegalStateException("there is no plan");
        }
        history.save(shop);
        planner.draftShifted();
        planner.copyDraftTo(shop.present);
        return shop.latenessOf(shop.present);
    }

    public int replan(int moment, int rule) throws IllegalArgumentException, IllegalStateException {
        if (!isBetween(moment, 0, MOST_MOMENT) || !isRule(rule)) {
            throw new IllegalArgumentException("moment: 0 to 999, rule: 0 to 3");
        }
        if (!shop.planned) {
            throw new IllegalStateException("there is no plan");
        }
        history.save(shop);
        planner.draftFrom(moment, rule);
        planner.copyDraftTo(shop.present);
        return shop.latenessOf(shop.present);
    }

    public int accept() throws IllegalStateException {
        if (!shop.planned) {
            throw new IllegalStateException("there is no plan");
        }
        history.save(shop);
        return shop.acceptPresent();
    }

    public int bargain(int job, int units)
            throws IndexOutOfBoundsException, IllegalArgumentException, IllegalStateException {
        if (!shop.hasJob(job)) {
            throw new IndexOutOfBoundsException("no such job");
        }
        if (!isBetween(units, 1, MOST_UNITS)) {
            throw new IllegalArgumentException("units: 1 to 99");
        }
        if (shop.due[job] + units > MOST_DUE) {
            throw new IllegalStateException("the due date would be greater than 999");
        }
        history.save(shop);
        shop.due[job] += units;
        shop.costs += shop.weight[job] * units;
        return shop.due[job];
    }

    public int overtime(int job, int operation) throws IndexOutOfBoundsException, IllegalStateException {
        if (!shop.hasOperation(job, operation)) {
            throw new IndexOutOfBoundsException("no such job or operation");
        }
        int slot = slotOf(job, operation);
        if (shop.duration[slot] <= 1) {
            throw new IllegalStateException("the duration is 1");
        }
        history.save(shop);
        shop.duration[slot]--;
        shop.costs += OVERTIME_COST;
        shop.planned = false;
        return shop.duration[slot];
    }

    // ---- values

    public int job(int job, int what) throws IndexOutOfBoundsException, IllegalArgumentException {
        if (!shop.hasJob(job)) {
            throw new IndexOutOfBoundsException("no such job");
        }
        if (!isBetween(what, 0, LAST_OF_JOB)) {
            throw new IllegalArgumentException("what: 0 to 5");
        }
        switch (what) {
            case 0:
                return shop.weight[job];
            case 1:
                return shop.due[job];
            case 2:
                return shop.operations[job];
            case 3:
                return shop.workOf(job);
            case 4:
                return shop.planned && shop.operations[job] > 0 ? shop.endOf(job, shop.present) : NONE;
            default:
                return shop.planned ? shop.latenessOfJob(job, shop.present) : NONE;
        }
    }

    public int operation(int job, int operation, int what)
            throws IndexOutOfBoundsException, IllegalArgumentException {
        if (!shop.hasOperation(job, operation)) {
            throw new IndexOutOfBoundsException("no such job or operation");
        }
        if (!isBetween(what, 0, LAST_OF_OPERATION)) {
            throw new IllegalArgumentException("what: 0 to 4");
        }
        int slot = slotOf(job, operation);
        if (what == 0) {
            return shop.machine[slot];
        }
        if (what == 1) {
            return shop.duration[slot];
        }
        if (!shop.planned) {
            return NONE;
        }
        if (what == 2) {
            return shop.old[slot];
        }
        if (what == 3) {
            return shop.present[slot];
        }
        return shop.hits(slot, shop.present[slot]) ? 1 : 0;
    }

    public int breakdown(int breakdown, int what) throws IndexOutOfBoundsException, IllegalArgumentException {
        if (!shop.hasBreakdown(breakdown)) {
            throw new IndexOutOfBoundsException("no such breakdown");
        }
        if (!isBetween(what, 0, LAST_OF_BREAKDOWN)) {
            throw new IllegalArgumentException("what: 0 to 2");
        }
        if (what == 0) {
            return shop.brokenMachine[breakdown];
        }
        if (what == 1) {
            return shop.brokenFrom[breakdown];
        }
        return shop.brokenFor[breakdown];
    }

    public int value(int what) throws IllegalArgumentException {
        if (!isBetween(what, 0, LAST_VALUE)) {
            throw new IllegalArgumentException("what: 0 to 9");
        }
        switch (what) {
            case 0:
                return shop.machines;
            case 1:
                return shop.jobs;
            case 2:
                return shop.countOperations();
            case 3:
                return shop.breakdowns;
            case 4:
                return shop.planned ? 1 : 0;
            case 5:
                return shop.costs;
            default:
                return shop.planned ? valueOfPlans(what) : NONE;
        }
    }

    public int meeting() {
        return shop.planned ? shop.meetingTime() : NONE;
    }

    public int onMachine(int machine, int place) throws IndexOutOfBoundsException {
        if (!shop.hasMachine(machine) || place < 0) {
            throw new IndexOutOfBoundsException("no such machine, or a negative place");
        }
        return shop.planned ? shop.codeAt(machine, place) : NONE;
    }

    // ---- what if

    public int latenessBy(int rule) throws IllegalArgumentException {
        if (!isRule(rule)) {
            throw new IllegalArgumentException("rule: 0 to 3");
        }
        return planner.latenessOfNew(rule);
    }

    public int bestRule() {
        int best = 0;
        int least = planner.latenessOfNew(0);
        for (int rule = 1; rule <= LAST_RULE; rule++) {
            int lateness = planner.latenessOfNew(rule);
            if (lateness < least) {
                best = rule;
                least = lateness;
            }
        }
        return best;
    }

    public int latenessShifted() {
        if (!shop.planned) {
            return NONE;
        }
        planner.draftShifted();
        return planner.latenessOfDraft();
    }

    public int bestReplan(int moment) throws IllegalArgumentException {
        if (!isBetween(moment, 0, MOST_MOMENT)) {
            throw new IllegalArgumentException("moment: 0 to 999");
        }
        if (!shop.planned) {
            return NONE;
        }
        int best = 0;
        int least = planner.latenessOfReplan(moment, 0);
        for (int rule = 1; rule <= LAST_RULE; rule++) {
            int lateness = planner.latenessOfReplan(moment, rule);
            if (lateness < least) {
                best = rule;
                least = lateness;
            }
        }
        return REPLAN_CODE * best + Math.min(least, REPLAN_CODE - 1);
    }

    public int bestOvertime(int rule) throws IllegalArgumentException {
        if (!isRule(rule)) {
            throw new IllegalArgumentException("rule: 0 to 3");
        }
        int best = NONE;
        int least = planner.latenessOfNew(rule);
        for (int job = 0; job < shop.jobs; job++) {
            for (int operation = 0; operation < shop.operations[job]; operation++) {
                int lateness = latenessWithOvertime(slotOf(job, operation), rule);
                if (lateness < least) {
                    best = OPERATION_CODE * job + operation;
                    least = lateness;
                }
            }
        }
        return best;
    }

    public double usage() {
        int time = shop.planned ? shop.machines * shop.greatestEnd() : 0;
        if (time <= 0) {
            return 0.0;
        }
        return (double) shop.allWork() / (double) time;
    }

    // ---- text

    public int append(int value) throws IllegalArgumentException, IllegalStateException {
        if (!isBetween(value, 0, MOST_BYTE)) {
            throw new IllegalArgumentException("value: 0 to 127");
        }
        if (text.length >= MOST_TEXT) {
            throw new IllegalStateException("the text has 100 bytes");
        }
        text.bytes[text.length] = value;
        text.length++;
        return text.length;
    }

    public int clearText() {
        int lengthBefore = text.length;
        text.length = 0;
        return lengthBefore;
    }

    public int carryOut() {
        int error = text.findError();
        if (error != NONE) {
            return SYNTAX_ERROR_CODE - error;
        }
        history.save(shop);
        text.startOver();
        int done = 0;
        for (int order = 0; order < MOST_TEXT; order++) {
            if (!text.readsOrder() || !carriesOutOrder()) {
                return done;
            }
            done++;
        }
        return done;
    }

    // ---- state

    public int undo() throws IllegalStateException {
        if (history.count == 0) {
            throw new IllegalStateException("there is no saved state");
        }
        history.restore(shop);
        return history.count;
    }

    public long digest() {
        long hash = joined(DIGEST_START, text.length);
        for (int what = 0; what <= LAST_VALUE; what++) {
            hash = joined(hash, value(what));
        }
        for (int job = 0; job < shop.jobs; job++) {
            hash = joinedJob(hash, job);
        }
        for (int breakdown = 0; breakdown < shop.breakdowns; breakdown++) {
            for (int what = 0; what <= LAST_OF_BREAKDOWN; what++) {
                hash = joined(hash, breakdown(breakdown, what));
            }
        }
        hash = joined(hash, meeting());
        hash = joined(hash, latenessShifted());
        return joined(hash, history.count);
    }

    private long joinedJob(long start, int job) {
        long hash = start;
        for (int what = 0; what <= LAST_OF_JOB; what++) {
            hash = joined(hash, job(job, what));
        }
        for (int operation = 0; operation < shop.operations[job]; operation++) {
            for (int what = 0; what <= LAST_OF_OPERATION; what++) {
                hash = joined(hash, operation(job, operation, what));
            }
        }
        return hash;
    }

    private static long joined(long hash, int next) {
        return DIGEST_FACTOR * hash + next;
    }

    private int valueOfPlans(int what) {
        switch (what) {
            case 6:
                return shop.latenessOf(shop.old);
            case 7:
                return shop.latenessOf(shop.present);
            case 8:
                return shop.greatestEnd();
            default:
                return shop.countHits();
        }
    }

    private int takeNewPlan(int rule) {
        planner.draftNew(rule);
        planner.copyDraftTo(shop.old);
        planner.copyDraftTo(shop.present);
        shop.planned = true;
        return shop.latenessOf(shop.present);
    }

    /** An operation that takes no overtime answers as if nothing were bought: it makes nothing less. */
    private int latenessWithOvertime(int slot, int rule) {
        if (shop.duration[slot] <= 1) {
            return planner.latenessOfNew(rule);
        }
        shop.duration[slot]--;
        int lateness = planner.latenessOfNew(rule);
        shop.duration[slot]++;
        return lateness;
    }

    /** The syntax keeps the numbers in their ranges, so only what the workshop lacks is asked here. */
    private boolean carriesOutOrder() {
        int first = text.first;
        int second = text.second;
        int third = text.third;
        switch (text.kind) {
            case 'j':
                if (!shop.takesJob()) {
                    return false;
                }
                shop.takeJob(first, second);
                return true;
            case 'o':
                if (!shop.hasJob(first) || !shop.hasMachine(second) || !shop.takesOperation(first)) {
                    return false;
                }
                shop.takeOperation(first, second, third);
                return true;
            case 'd':
                if (!shop.hasMachine(first) || !shop.takesBreakdown()) {
                    return false;
                }
                shop.takeBreakdown(first, second, third);
                return true;
            default:
                takeNewPlan(first);
                return true;
        }
    }

    private static boolean isBetween(int number, int least, int most) {
        return least <= number && number <= most;
    }

    private static boolean isRule(int rule) {
        return isBetween(rule, 0, LAST_RULE);
    }

    private static int slotOf(int job, int operation) {
        return MOST_OPERATIONS * job + operation;
    }

    /** All that undo brings back; rows have the document's full size, so that nothing is made later on. */
    private static final class Shop {
        private int machines;
        private int jobs;
        private final int[] weight = new int[MOST_JOBS];
        private final int[] due = new int[MOST_JOBS];
        private final int[] operations = new int[MOST_JOBS];
        private final int[] machine = new int[SLOTS];
        private final int[] duration = new int[SLOTS];
        private int breakdowns;
        private final int[] brokenMachine = new int[MOST_BREAKDOWNS];
        private final int[] brokenFrom = new int[MOST_BREAKDOWNS];
        private final int[] brokenFor = new int[MOST_BREAKDOWNS];
        // Both plans come and go together, so one mark tells of both.
        private boolean planned;
        private final int[] old = new int[SLOTS];
        private final int[] present = new int[SLOTS];
        private int costs;

        private Shop() {
            machines = FIRST_MACHINES;
        }

        private void empty(int newMachines) {
            machines = newMachines;
            jobs = 0;
            breakdowns = 0;
            planned = false;
            costs = 0;
        }

        private void copyFrom(Shop other) {
            machines = other.machines;
            jobs = other.jobs;
            breakdowns = other.breakdowns;
            planned = other.planned;
            costs = other.costs;
            System.arraycopy(other.weight, 0, weight, 0, MOST_JOBS);
            System.arraycopy(other.due, 0, due, 0, MOST_JOBS);
            System.arraycopy(other.operations, 0, operations, 0, MOST_JOBS);
            System.arraycopy(other.machine, 0, machine, 0, SLOTS);
            System.arraycopy(other.duration, 0, duration, 0, SLOTS);
            System.arraycopy(other.brokenMachine, 0, brokenMachine, 0, MOST_BREAKDOWNS);
            System.arraycopy(other.brokenFrom, 0, brokenFrom, 0, MOST_BREAKDOWNS);
            System.arraycopy(other.brokenFor, 0, brokenFor, 0, MOST_BREAKDOWNS);
            System.arraycopy(other.old, 0, old, 0, SLOTS);
            System.arraycopy(other.present, 0, present, 0, SLOTS);
        }

        private boolean hasMachine(int number) {
            return number >= 0 && number < machines;
        }

        private boolean hasJob(int number) {
            return number >= 0 && number < jobs;
        }

        private boolean hasOperation(int job, int number) {
            return hasJob(job) && number >= 0 && number < operations[job];
        }

        private boolean hasBreakdown(int number) {
            return number >= 0 && number < breakdowns;
        }

        private boolean takesJob() {
            return jobs < MOST_JOBS;
        }

        private boolean takesOperation(int job) {
            return operations[job] < MOST_OPERATIONS;
        }

        private boolean takesBreakdown() {
            return breakdowns < MOST_BREAKDOWNS;
        }

        private int takeJob(int newWeight, int newDue) {
            weight[jobs] = newWeight;
            due[jobs] = newDue;
            operations[jobs] = 0;
            planned = false;
            jobs++;
            return jobs - 1;
        }

        private int takeOperation(int job, int itsMachine, int itsDuration) {
            int slot = slotOf(job, operations[job]);
            machine[slot] = itsMachine;
            duration[slot] = itsDuration;
            planned = false;
            operations[job]++;
            return operations[job] - 1;
        }

        private int takeBreakdown(int itsMachine, int from, int length) {
            brokenMachine[breakdowns] = itsMachine;
            brokenFrom[breakdowns] = from;
            brokenFor[breakdowns] = length;
            breakdowns++;
            return breakdowns - 1;
        }

        private int countOperations() {
            int count = 0;
            for (int job = 0; job < jobs; job++) {
                count += operations[job];
            }
            return count;
        }

        private int workOf(int job) {
            int work = 0;
            for (int operation = 0; operation < operations[job]; operation++) {
                work += duration[slotOf(job, operation)];
            }
            return work;
        }

        private int allWork() {
            int work = 0;
            for (int job = 0; job < jobs; job++) {
                work += workOf(job);
            }
            return work;
        }

        /** The end of a job in a plan; 0, which is never late, for a job without operations. */
        private int endOf(int job, int[] starts) {
            if (operations[job] == 0) {
                return 0;
            }
            int last = slotOf(job, operations[job] - 1);
            return starts[last] + duration[last];
        }

        private int latenessOfJob(int job, int[] starts) {
            return Math.max(0, endOf(job, starts) - due[job]);
        }

        private int latenessOf(int[] starts) {
            int lateness = 0;
            for (int job = 0; job < jobs; job++) {
                lateness += weight[job] * latenessOfJob(job, starts);
            }
            return lateness;
        }

        /** Operations of a job follow one another, so the greatest end is that of a last one. */
        private int greatestEnd() {
            int end = 0;
            for (int job = 0; job < jobs; job++) {
                end = Math.max(end, endOf(job, present));
            }
            return end;
        }

        /** The least start, not before the given one, with which an operation hits no breakdown. */
        private int startWithoutHit(int slot, int from) {
            int start = from;
            // A breakdown once left behind is hit no more: as many rounds as breakdowns are enough.
            for (int round = 0; round < breakdowns; round++) {
                int before = start;
                for (int breakdown = 0; breakdown < breakdowns; breakdown++) {
                    if (hitsOne(slot, start, breakdown)) {
                        start = brokenFrom[breakdown] + brokenFor[breakdown];
                    }
                }
                if (start == before) {
                    return start;
                }
            }
            return start;
        }

        private boolean hits(int slot, int start) {
            for (int breakdown = 0; breakdown < breakdowns; breakdown++) {
                if (hitsOne(slot, start, breakdown)) {
                    return true;
                }
            }
            return false;
        }

        private boolean hitsOne(int slot, int start, int breakdown) {
            return brokenMachine[breakdown] == machine[slot]
                    && start < brokenFrom[breakdown] + brokenFor[breakdown]
                    && start + duration[slot] > brokenFrom[breakdown];
        }

        private int countHits() {
            int count = 0;
            for (int job = 0; job < jobs; job++) {
                for (int operation = 0; operation < operations[job]; operation++) {
                    int slot = slotOf(job, operation);
                    if (hits(slot, present[slot])) {
                        count++;
                    }
                }
            }
            return count;
        }

        private int meetingTime() {
            int time = 0;
            for (int job = 0; job < jobs; job++) {
                for (int operation = 0; operation < operations[job]; operation++) {
                    int slot = slotOf(job, operation);
                    if (old[slot] != present[slot]) {
                        time = Math.max(time, old[slot] + 1);
                    }
                }
            }
            return time;
        }

        /** Answers how many starts were different. */
        private int acceptPresent() {
            int different = 0;
            for (int job = 0; job < jobs; job++) {
                for (int operation = 0; operation < operations[job]; operation++) {
                    int slot = slotOf(job, operation);
                    if (old[slot] != present[slot]) {
                        old[slot] = present[slot];
                        different++;
                    }
                }
            }
            return different;
        }

        /** No two operations of a machine start at once: that with as many before it is the one. */
        private int codeAt(int itsMachine, int place) {
            for (int job = 0; job < jobs; job++) {
                for (int operation = 0; operation < operations[job]; operation++) {
                    int slot = slotOf(job, operation);
                    if (machine[slot] == itsMachine && countBefore(itsMachine, present[slot]) == place) {
                        return OPERATION_CODE * job + operation;
                    }
                }
            }
            return NONE;
        }

        private int countBefore(int itsMachine, int start) {
            int count = 0;
            for (int job = 0; job < jobs; job++) {
                for (int operation = 0; operation < operations[job]; operation++) {
                    int slot = slotOf(job, operation);
                    if (machine[slot] == itsMachine && present[slot] < start) {
                        count++;
                    }
                }
            }
            return count;
        }
    }

    /** Makes plans for its workshop as drafts: the workshop keeps its own until one is copied to it. */
    private static final class Planner {
        private final Shop shop = new Shop();
        private final int[] draft = new int[SLOTS];
        // The operations of a job that have a start are always its first ones.
        private final int[] started = new int[MOST_JOBS];
        private final int[] freeFrom = new int[MOST_MACHINES];

        private void copyDraftTo(int[] starts) {
            System.arraycopy(draft, 0, starts, 0, SLOTS);
        }

        private int latenessOfDraft() {
            return shop.latenessOf(draft);
        }

        private int latenessOfNew(int rule) {
            draftNew(rule);
            return latenessOfDraft();
        }

        private int latenessOfReplan(int moment, int rule) {
            draftFrom(moment, rule);
            return latenessOfDraft();
        }

        private void draftNew(int rule) {
            clearDraft();
            fill(0, rule);
        }

        private void draftFrom(int moment, int rule) {
            clearDraft();
            for (int job = 0; job < shop.jobs; job++) {
                keepUntil(job, moment);
            }
            fill(moment, rule);
        }

        private void clearDraft() {
            for (int job = 0; job < MOST_JOBS; job++) {
                started[job] = 0;
            }
            for (int machine = 0; machine < MOST_MACHINES; machine++) {
                freeFrom[machine] = 0;
            }
        }

        private void keepUntil(int job, int moment) {
            for (int operation = 0; operation < shop.operations[job]; operation++) {
                int slot = slotOf(job, operation);
                int start = shop.present[slot];
                if (start >= moment || shop.hits(slot, start)) {
                    return;
                }
                setStart(job, start);
            }
        }

        private void fill(int moment, int rule) {
            for (int step = 0; step < SLOTS; step++) {
                int chosen = NONE;
                int least = 0;
                for (int job = 0; job < shop.jobs; job++) {
                    if (started[job] < shop.operations[job]) {
                        int start = shop.startWithoutHit(slotOf(job, started[job]), waitUntil(job, moment));
                        if (chosen == NONE || start < least
                                || start == least && rank(job, rule) < rank(chosen, rule)) {
                            chosen = job;
                            least = start;
                        }
                    }
                }
                if (chosen == NONE) {
                    return;
                }
                setStart(chosen, least);
            }
        }

        /** In the order of the old starts all that an operation waits for has been shifted before it. */
        private void draftShifted() {
            clearDraft();
            for (int step = 0; step < SLOTS; step++) {
                int chosen = NONE;
                int least = 0;
                for (int job = 0; job < shop.jobs; job++) {
                    if (started[job] < shop.operations[job]) {
                        int start = shop.old[slotOf(job, started[job])];
                        if (chosen == NONE || start < least) {
                            chosen = job;
                            least = start;
                        }
                    }
                }
                if (chosen == NONE) {
                    return;
                }
                int slot = slotOf(chosen, started[chosen]);
                setStart(chosen, shop.startWithoutHit(slot, waitUntil(chosen, least)));
            }
        }

        /** Until when the job's first operation without a start waits, breakdowns aside. */
        private int waitUntil(int job, int moment) {
            int slot = slotOf(job, started[job]);
            int start = Math.max(moment, machineFreeFrom(shop.machine[slot]));
            if (started[job] > 0) {
                start = Math.max(start, draft[slot - 1] + shop.duration[slot - 1]);
            }
            return start;
        }

        private int machineFreeFrom(int machine) {
            return machine >= 0 && machine < MOST_MACHINES ? freeFrom[machine] : 0;
        }

        /** Gives a start to the job's first operation without one. */
        private void setStart(int job, int start) {
            int slot = slotOf(job, started[job]);
            int machine = shop.machine[slot];
            draft[slot] = start;
            if (machine >= 0 && machine < MOST_MACHINES) {
                freeFrom[machine] = Math.max(freeFrom[machine], start + shop.duration[slot]);
            }
            started[job]++;
        }

        /** What comes first by the rule has the lowest rank. */
        private int rank(int job, int rule) {
            switch (rule) {
                case SHORTEST_FIRST:
                    return shop.duration[slotOf(job, started[job])];
                case EARLIEST_DUE_FIRST:
                    return shop.due[job];
                case GREATEST_WEIGHT_FIRST:
                    return -shop.weight[job];
                default:
                    return shop.operations[job] - started[job];
            }
        }
    }

    /** The saved states in a ring: the newest takes the place of the oldest. */
    private static final class History {
        private final Shop[] states = new Shop[MOST_SAVED];
        private int next;
        private int count;

        private History() {
            for (int state = 0; state < MOST_SAVED; state++) {
                states[state] = new Shop();
            }
        }

        private void save(Shop shop) {
            states[next].copyFrom(shop);
            next = next + 1 < MOST_SAVED ? next + 1 : 0;
            count = Math.min(count + 1, MOST_SAVED);
        }

        private void restore(Shop shop) {
            next = next > 0 ? next - 1 : MOST_SAVED - 1;
            count = Math.max(count - 1, 0);
            shop.copyFrom(states[next]);
        }
    }

    /** The text, whose orders are read one by one: kind, first, second and third tell of the one just read. */
    private static final class OrderText {
        private static final int END_OF_TEXT = -1;

        private final int[] bytes = new int[MOST_TEXT];
        private int length;
        private int at;
        private int error = NONE;
        private int kind;
        private int first;
        private int second;
        private int third;

        private void startOver() {
            at = 0;
            error = NONE;
        }

        /** The syntax error position; NONE if all bytes can stand where they stand. */
        private int findError() {
            startOver();
            for (int order = 0; order < MOST_TEXT; order++) {
                if (!readsOrder()) {
                    return error;
                }
            }
            return error;
        }

        /** Answers false at the end of the text and at a syntax error. */
        private boolean readsOrder() {
            if (error != NONE || at >= length) {
                return false;
            }
            kind = nextByte();
            at++;
            switch (kind) {
                case 'j':
                    readJob();
                    break;
                case 'o':
                    readOperation();
                    break;
                case 'd':
                    readBreakdown();
                    break;
                case 'p':
                    first = readDigit(0, LAST_RULE);
                    break;
                default:
                    error = at - 1;
            }
            readSign(';');
            return error == NONE;
        }

        private void readJob() {
            first = readDigit(1, MOST_WEIGHT);
            readSign(',');
            second = readNumber(3, 0, MOST_DUE);
        }

        private void readOperation() {
            first = readDigit(0, MOST_JOBS - 1);
            second = readDigit(0, MOST_MACHINES - 1);
            readSign(',');
            third = readNumber(2, 1, MOST_DURATION);
        }

        private void readBreakdown() {
            first = readDigit(0, MOST_MACHINES - 1);
            readSign(',');
            second = readNumber(3, 0, MOST_BEGIN);
            readSign(',');
            third = readNumber(2, 1, MOST_LENGTH);
        }

        private int nextByte() {
            return at >= 0 && at < length && at < MOST_TEXT ? bytes[at] : END_OF_TEXT;
        }

        private boolean isAtDigit() {
            return isBetween(nextByte(), '0', '9');
        }

        private void readSign(int sign) {
            if (error != NONE) {
                return;
            }
            if (nextByte() != sign) {
                error = at;
                return;
            }
            at++;
        }

        private int readDigit(int least, int most) {
            if (error != NONE) {
                return 0;
            }
            int digit = nextByte() - '0';
            if (!isBetween(digit, least, most)) {
                error = at;
                return 0;
            }
            at++;
            return digit;
        }

        /** A digit too many is found before the range: that is asked only where the number ends. */
        private int readNumber(int mostDigits, int least, int most) {
            if (error != NONE) {
                return 0;
            }
            int begin = at;
            int number = 0;
            for (int digits = 0; digits < mostDigits && isAtDigit(); digits++) {
                number = 10 * number + nextByte() - '0';
                at++;
            }
            if (at == begin || isAtDigit()) {
                error = at;
            } else if (!isBetween(number, least, most)) {
                error = begin;
            }
            return number;
        }
    }
}
