/** Each promise with answers worked out by hand: ordinary inputs, the edges, and wrong inputs. */
public final class PromisesTest extends Bench {
    private static String promise;

    public static void main(String[] args) {
        newObject();
        begin();
        addJob();
        addOperation();
        breakDown();
        repaired();
        planByRules();
        planFullShop();
        planRoundBreakdowns();
        shift();
        shiftComesFromTheOldPlan();
        replan();
        replanFromShifted();
        accept();
        bargain();
        overtime();
        job();
        operation();
        breakdown();
        value();
        meeting();
        onMachine();
        latenessBy();
        bestRule();
        latenessShifted();
        bestReplan();
        bestOvertime();
        usage();
        append();
        clearText();
        carryOutOrders();
        carryOutStops();
        carryOutUndone();
        syntaxErrors();
        undo();
        digest();
        Checks.close("PromisesTest");
    }

    private static void due(String what, Object want, Object got) {
        Checks.due(promise + ", " + what, want, got);
    }

    private static void dueThrow(String what, Class<? extends RuntimeException> want, RepairShop x, Checks.Call call) {
        Checks.dueThrow(promise + ", " + what, want, x, call);
    }

    /** Two jobs on three machines; by rule 0: 0 4 | 4 9, ends 7 and 11, lateness 3*0 + 2*1. */
    private static RepairShop twoJobs() {
        return shop(3, "j3,10;o00,4;o01,3;j2,10;o10,5;o12,2;");
    }

    private static void newObject() {
        promise = "promise 1";
        RepairShop x = new RepairShop();
        due("values", "3 0 0 0 0 0 -1 -1 -1 -1", values(x));
        due("text", 0, x.clearText());
        due("NONE", -1, RepairShop.NONE);
        dueThrow("undo", STATE, x, y -> y.undo());
        RepairShop other = new RepairShop();
        x.addJob(1, 1);
        due("another object's jobs", 0, other.value(1));
    }

    private static void begin() {
        promise = "promise 2";
        RepairShop x = new RepairShop();
        due("begin(2)", 0, x.begin(2));
        due("machines", 2, x.value(0));
        due("begin(5)", 0, x.begin(5));
        due("machines", 5, x.value(0));
        x = shop(4, "j3,10;o03,4;j2,10;d3,1,1;p0;");
        x.bargain(0, 2);
        x.append('j');
        due("begin(4)", 2, x.begin(4));
        due("values", "4 0 0 0 0 0 -1 -1 -1 -1", values(x));
        due("undo", 3, x.undo());
        due("text stays", 1, x.clearText());
        x.append('j');
        x.bargain(0, 1);
        due("costs", 9, x.value(5));
        due("undo", 3, x.undo());
        due("values", "4 2 1 1 1 6 0 0 6 0", values(x));
        due("start", 2, x.operation(0, 0, 3));
        x.begin(5);
        due("a job after it has no operations", 0, x.addJob(1, 1));
        due("a job after it has no operations", 0, x.job(0, 2));
        for (int machines : new int[] {LEAST, -3, 0, 1, 6, 7, MOST}) {
            dueThrow("begin(" + machines + ")", ARGUMENT, x, y -> y.begin(machines));
        }
    }

    private static void addJob() {
        promise = "promise 3";
        RepairShop x = new RepairShop();
        dueThrow("weight 0", ARGUMENT, x, y -> y.addJob(0, 5));
        dueThrow("weight 10", ARGUMENT, x, y -> y.addJob(10, 5));
        dueThrow("weight least", ARGUMENT, x, y -> y.addJob(LEAST, 5));
        dueThrow("weight most", ARGUMENT, x, y -> y.addJob(MOST, 5));
        dueThrow("due -1", ARGUMENT, x, y -> y.addJob(5, -1));
        dueThrow("due 1000", ARGUMENT, x, y -> y.addJob(5, 1000));
        dueThrow("due least", ARGUMENT, x, y -> y.addJob(5, LEAST));
        dueThrow("due most", ARGUMENT, x, y -> y.addJob(5, MOST));
        due("first", 0, x.addJob(1, 0));
        x.plan(0);
        due("second", 1, x.addJob(9, 999));
        due("plans are gone", 0, x.value(4));
        due("weight", 9, x.job(1, 0));
        due("due", 999, x.job(1, 1));
        due("operations", 0, x.job(1, 2));
        due("undo", 2, x.undo());
        due("plans are back", 1, x.value(4));
        due("jobs", 1, x.value(1));
        for (int job = 1; job < 6; job++) {
            due("job " + job, job, x.addJob(job, job));
        }
        dueThrow("a seventh", STATE, x, y -> y.addJob(1, 1));
        dueThrow("a seventh and weight 0", ARGUMENT, x, y -> y.addJob(0, 1));
        dueThrow("a seventh and due 1000", ARGUMENT, x, y -> y.addJob(1, 1000));
    }

    private static void addOperation() {
        promise = "promise 4";
        RepairShop x = shop(2, "j1,9;j2,8;");
        for (int job : new int[] {LEAST, -1, 2, 6, MOST}) {
            dueThrow("job " + job, INDEX, x, y -> y.addOperation(job, 0, 1));
        }
        for (int machine : new int[] {LEAST, -1, 2, 5, MOST}) {
            dueThrow("machine " + machine, INDEX, x, y -> y.addOperation(0, machine, 1));
        }
        for (int duration : new int[] {LEAST, -1, 0, 21, MOST}) {
            dueThrow("duration " + duration, ARGUMENT, x, y -> y.addOperation(0, 0, duration));
        }
        dueThrow("job and duration", INDEX, x, y -> y.addOperation(2, 0, 0));
        dueThrow("machine and duration", INDEX, x, y -> y.addOperation(0, 2, 0));
        due("first", 0, x.addOperation(1, 1, 20));
        x.plan(0);
        due("second", 1, x.addOperation(1, 0, 1));
        due("plans are gone", 0, x.value(4));
        due("machine", 1, x.operation(1, 0, 0));
        due("duration", 20, x.operation(1, 0, 1));
        due("machine", 0, x.operation(1, 1, 0));
        due("duration", 1, x.operation(1, 1, 1));
        due("the other job", 0, x.job(0, 2));
        x.undo();
        due("plans are back", 1, x.value(4));
        due("operations", 1, x.job(1, 2));
        for (int operation = 1; operation < 5; operation++) {
            due("operation " + operation, operation, x.addOperation(1, 0, 3));
        }
        dueThrow("a sixth", STATE, x, y -> y.addOperation(1, 0, 3));
        dueThrow("a sixth, machine", INDEX, x, y -> y.addOperation(1, 2, 3));
        dueThrow("a sixth, duration", ARGUMENT, x, y -> y.addOperation(1, 0, 21));
        due("of the other job", 0, x.addOperation(0, 0, 3));
    }

    private static void breakDown() {
        promise = "promise 5";
        RepairShop x = shop(2, "j1,0;o00,4;p0;");
        for (int machine : new int[] {LEAST, -1, 2, MOST}) {
            dueThrow("machine " + machine, INDEX, x, y -> y.breakDown(machine, 0, 1));
        }
        for (int begin : new int[] {LEAST, -1, 501, MOST}) {
            dueThrow("begin " + begin, ARGUMENT, x, y -> y.breakDown(0, begin, 1));
        }
        for (int length : new int[] {LEAST, -1, 0, 51, MOST}) {
            dueThrow("length " + length, ARGUMENT, x, y -> y.breakDown(0, 0, length));
        }
        dueThrow("machine and begin", INDEX, x, y -> y.breakDown(2, -1, 1));
        due("first", 0, x.breakDown(0, 0, 50));
        due("plans stay", "0", starts(x, 2));
        due("plans stay", "0", starts(x, 3));
        due("it hits", 1, x.value(9));
        x.undo();
        due("breakdowns", 0, x.value(3));
        due("hits no more", 0, x.value(9));
        for (int breakdown = 0; breakdown < 6; breakdown++) {
            due("breakdown " + breakdown, breakdown, x.breakDown(1, 500, 1));
        }
        dueThrow("a seventh", STATE, x, y -> y.breakDown(0, 0, 1));
        dueThrow("a seventh, machine", INDEX, x, y -> y.breakDown(2, 0, 1));
        dueThrow("a seventh, length", ARGUMENT, x, y -> y.breakDown(0, 0, 0));
    }

    private static void repaired() {
        promise = "promise 6";
        RepairShop x = shop(2, "j1,0;o00,4;p0;");
        dueThrow("none", STATE, x, y -> y.repaired());
        x.breakDown(0, 1, 2);
        x.breakDown(1, 3, 4);
        due("the latest", 1, x.repaired());
        due("the other is left", 1, x.breakdown(0, 1));
        due("breakdowns", 1, x.value(3));
        due("plans stay", 1, x.value(4));
        x.undo();
        due("undone", 3, x.breakdown(1, 1));
        due("the latest", 1, x.repaired());
        due("the last one", 0, x.repaired());
        dueThrow("none", STATE, x, y -> y.repaired());
    }

    private static void planByRules() {
        promise = "promise 7";
        RepairShop x = shop(2, "j1,9;o00,5;j1,9;o10,3;j1,9;o20,3;");
        due("shortest first, of several the lowest", 2, x.plan(0));
        due("starts", "6 | 0 | 3", starts(x, 3));
        due("old, too", "6 | 0 | 3", starts(x, 2));
        due("all alike: the lowest", 2, x.plan(1));
        due("starts", "0 | 5 | 8", starts(x, 3));
        x = shop(2, "j1,7;o00,5;j9,9;o10,3;j1,5;o20,4;");
        due("earliest due first: 0 + 2 + 9*3", 29, x.plan(1));
        due("starts", "4 | 9 | 0", starts(x, 3));
        due("greatest weight first: 1 + 0 + 7", 8, x.plan(2));
        due("starts", "3 | 0 | 8", starts(x, 3));
        x = shop(2, "j1,9;o00,2;o01,2;o00,2;j1,9;o10,2;o10,2;j1,9;o20,2;");
        x.plan(3);
        due("fewest operations left first", "6 8 10 | 2 4 | 0", starts(x, 3));
        x = shop(2, "j1,9;o00,9;j1,9;o11,3;o10,1;");
        x.plan(0);
        due("the least start comes ahead of the rule", "0 | 0 9", starts(x, 3));
        x = shop(2, "j1,9;o00,9;o01,1;j1,9;o11,3;o11,7;");
        x.plan(0);
        due("the machine's greatest end", "0 10 | 0 3", starts(x, 3));
        x = twoJobs();
        due("lateness", 2, x.plan(0));
        due("starts", "0 4 | 4 9", starts(x, 3));
        x = new RepairShop();
        due("without jobs", 0, x.plan(3));
        due("there is a plan", 1, x.value(4));
        x.addJob(9, 0);
        due("without operations", 0, x.plan(1));
        x.undo();
        due("undone", 0, x.value(4));
        for (int rule : new int[] {LEAST, -1, 4, MOST}) {
            dueThrow("rule " + rule, ARGUMENT, x, y -> y.plan(rule));
        }
    }

    /** Six jobs of five operations, all on one machine: one after the other, by weight. */
    private static void planFullShop() {
        promise = "promise 7";
        RepairShop x = new RepairShop();
        for (int job = 0; job < 6; job++) {
            x.addJob(job + 1, 999);
            for (int operation = 0; operation < 5; operation++) {
                x.addOperation(job, 1, 20);
            }
        }
        due("nothing is late", 0, x.plan(2));
        due("starts", "500 520 540 560 580 | 400 420 440 460 480 | 300 320 340 360 380 | "
                + "200 220 240 260 280 | 100 120 140 160 180 | 0 20 40 60 80", starts(x, 3));
        due("the last one", 4, x.onMachine(1, 29));
        due("not so many", NONE, x.onMachine(1, 30));
        x.breakDown(1, 99, 1);
        due("shift", 0, x.shift());
        due("starts", "520 540 560 580 600 | 420 440 460 480 500 | 320 340 360 380 400 | "
                + "220 240 260 280 300 | 120 140 160 180 200 | 0 20 40 60 100", starts(x, 3));
        due("meeting", 581, x.meeting());
        due("different", 26, x.accept());
        due("all work", 600.0 / (3 * 620), x.usage());
        due("replan, from 600 on", 0, x.replan(600, 0));
        due("the last one stays or starts at 600", 600, x.operation(0, 4, 3));
        due("replan, from 999 on", 0, x.replan(999, 0));
        due("all stay", 600, x.operation(0, 4, 3));
        due("replan, from 0 on by rule 0", 0, x.replan(0, 0));
        due("greatest end", 620, x.value(8));
        due("the lowest first", 0, x.operation(0, 0, 3));
    }

    private static void planRoundBreakdowns() {
        promise = "promise 7";
        RepairShop x = shop(2, "j1,9;o00,3;d0,2,3;");
        x.plan(0);
        due("would end after its begin", "5", starts(x, 3));
        x = shop(2, "j1,9;o00,2;d0,2,3;");
        x.plan(0);
        due("ends at its begin", "0", starts(x, 3));
        x = shop(2, "j1,9;o01,3;d0,2,3;p0;");
        due("of another machine", "0", starts(x, 3));
        x = shop(2, "j1,9;o00,2;d0,10,5;d0,6,3;d0,1,4;p0;");
        due("from one into another, the later ones first", "15", starts(x, 3));
        x = shop(2, "j1,9;o00,1;d0,10,5;d0,6,3;d0,0,5;p0;");
        due("between two", "5", starts(x, 3));
        x = shop(2, "j1,9;o00,20;d0,50,1;d0,40,1;d0,30,1;d0,20,1;d0,10,1;d0,0,1;p0;");
        due("behind all six", "51", starts(x, 3));
        x = shop(2, "j1,9;o00,1;j1,9;o11,5;o10,9;d0,0,5;p0;");
        due("a breakdown makes the earliest start later", "5 | 0 6", starts(x, 3));
    }

    private static void shift() {
        promise = "promise 8";
        RepairShop x = shop(3, "j3,10;o00,4;o01,3;j2,10;o10,5;o12,2;");
        dueThrow("no plan", STATE, x, y -> y.shift());
        x.plan(0);
        due("nothing to shift", 2, x.shift());
        due("starts", "0 4 | 4 9", starts(x, 3));
        x.breakDown(0, 2, 3);
        // 0-0 hits until 5, and ends at 9; 0-1 and 1-0 wait for it; 1-1 waits for 1-0's end, 14.
        due("later: 3*2 + 2*6", 18, x.shift());
        due("starts", "5 9 | 9 14", starts(x, 3));
        due("the old plan stays", "0 4 | 4 9", starts(x, 2));
        due("hits", 0, x.value(9));
        x.undo();
        due("undone", "0 4 | 4 9", starts(x, 3));
        x.repaired();
        x.breakDown(2, 8, 2);
        due("only what is hit", 4, x.shift());
        due("starts", "0 4 | 4 10", starts(x, 3));
        x.repaired();
        due("from the old plan again", 2, x.shift());
        due("starts", "0 4 | 4 9", starts(x, 3));
        x = shop(2, "j1,9;o01,9;j1,9;o11,3;o10,1;o10,9;d0,3,9;p0;");
        due("with a gap in the old plan", "3 | 0 12 13", starts(x, 3));
        x.repaired();
        due("not earlier than in the old plan", "3 | 0 12 13", shifted(x));
        x.breakDown(1, 1, 4);
        due("a gap takes it up", "8 | 5 12 13", shifted(x));
    }

    private static String shifted(RepairShop x) {
        due("lateness told before", x.latenessShifted(), x.shift());
        return starts(x, 3);
    }

    private static void shiftComesFromTheOldPlan() {
        promise = "promise 8";
        RepairShop x = shop(2, "j1,9;o00,5;j2,9;o10,3;p0;");
        due("by rule 0", "3 | 0", starts(x, 3));
        x.replan(0, 1);
        due("anew by rule 1", "0 | 5", starts(x, 3));
        due("old", "3 | 0", starts(x, 2));
        due("shift", "3 | 0", shifted(x));
        x.replan(0, 1);
        x.accept();
        due("shift after accept", "0 | 5", shifted(x));
    }

    private static void replan() {
        promise = "promise 9";
        RepairShop x = twoJobs();
        dueThrow("no plan", STATE, x, y -> y.replan(0, 0));
        dueThrow("no plan, moment", ARGUMENT, x, y -> y.replan(-1, 0));
        dueThrow("no plan, rule", ARGUMENT, x, y -> y.replan(0, 4));
        x.plan(0);
        for (int moment : new int[] {LEAST, -1, 1000, MOST}) {
            dueThrow("moment " + moment, ARGUMENT, x, y -> y.replan(moment, 0));
        }
        for (int rule : new int[] {LEAST, -1, 4, MOST}) {
            dueThrow("rule " + rule, ARGUMENT, x, y -> y.replan(0, rule));
        }
        x.replan(999, 0);
        due("all are kept", "0 4 | 4 9", starts(x, 3));
        x.replan(4, 0);
        due("a start at the moment is lost, and found again", "0 4 | 4 9", starts(x, 3));
        x.breakDown(0, 2, 3);
        // 0-0 is hit, so job 0 loses all; 1-0 starts at 4: before 7, but hit until 5.
        due("from 7 on: 3*4 + 2*8", 28, x.replan(7, 1));
        due("starts", "7 11 | 11 16", starts(x, 3));
        due("the old plan stays", "0 4 | 4 9", starts(x, 2));
        x.undo();
        due("undone", "0 4 | 4 9", starts(x, 3));
        x.repaired();
        x.breakDown(0, 5, 1);
        due("from 4 on: 0-0 stays, 1-0 waits till 6", 6, x.replan(4, 0));
        due("starts", "0 4 | 6 11", starts(x, 3));
        x = shop(2, "j1,0;o00,3;o01,3;p0;");
        x.breakDown(0, 1, 1);
        x.replan(10, 0);
        due("what is behind a lost one is lost", "10 13", starts(x, 3));
        x = shop(2, "j1,0;o00,9;j2,0;o11,1;o10,5;p0;");
        due("by rule 0", "0 | 0 9", starts(x, 3));
        x.replan(1, 0);
        due("what has begun keeps its machine", "0 | 0 9", starts(x, 3));
        x.replan(20, 3);
        due("all stays", "0 | 0 9", starts(x, 3));
        x.replan(0, 2);
        due("moment 0", "0 | 0 9", starts(x, 3));
    }

    private static void replanFromShifted() {
        promise = "promise 9";
        RepairShop x = shop(2, "j1,9;o00,5;j2,9;o10,3;p0;");
        x.breakDown(0, 0, 4);
        x.shift();
        due("shifted", "7 | 4", starts(x, 3));
        x.replan(5, 1);
        due("the present plan's starts count", "7 | 4", starts(x, 3));
        x.repaired();
        x.replan(4, 1);
        due("by rule 1 from 4 on", "4 | 9", starts(x, 3));
        due("the old plan stays", "3 | 0", starts(x, 2));
    }

    private static void accept() {
        promise = "promise 10";
        RepairShop x = twoJobs();
        dueThrow("no plan", STATE, x, y -> y.accept());
        x.plan(0);
        due("nothing is different", 0, x.accept());
        x.breakDown(2, 8, 2);
        x.shift();
        due("one is different", 1, x.accept());
        due("old", "0 4 | 4 10", starts(x, 2));
        due("present", "0 4 | 4 10", starts(x, 3));
        x.undo();
        due("undone", "0 4 | 4 9", starts(x, 2));
        x.repaired();
        x.breakDown(0, 2, 3);
        x.shift();
        due("all are different", 4, x.accept());
        due("no more", 0, x.accept());
    }

    private static void bargain() {
        promise = "promise 11";
        RepairShop x = twoJobs();
        x.plan(0);
        for (int job : new int[] {LEAST, -1, 2, MOST}) {
            dueThrow("job " + job, INDEX, x, y -> y.bargain(job, 1));
            dueThrow("job " + job + " and units", INDEX, x, y -> y.bargain(job, 0));
        }
        for (int units : new int[] {LEAST, -1, 0, 100, MOST}) {
            dueThrow("units " + units, ARGUMENT, x, y -> y.bargain(0, units));
        }
        due("lateness", 2, x.value(7));
        due("due", 11, x.bargain(1, 1));
        due("costs", 2, x.value(5));
        due("lateness", 0, x.value(7));
        due("plans stay", "0 4 | 4 9", starts(x, 3));
        due("due", 109, x.bargain(0, 99));
        due("costs", 299, x.value(5));
        x.undo();
        due("undone", 10, x.job(0, 1));
        due("undone", 2, x.value(5));
        x = shop(2, "j9,900;");
        due("the latest due date", 999, x.bargain(0, 99));
        dueThrow("too late", STATE, x, y -> y.bargain(0, 1));
        dueThrow("too late, units", ARGUMENT, x, y -> y.bargain(0, 100));
        x = shop(2, "j9,901;");
        dueThrow("too late", STATE, x, y -> y.bargain(0, 99));
        due("just", 999, x.bargain(0, 98));
    }

    private static void overtime() {
        promise = "promise 12";
        RepairShop x = shop(2, "j1,9;o00,3;o01,2;j1,9;p0;");
        for (int job : new int[] {LEAST, -1, 1, 2, MOST}) {
            dueThrow("job " + job, INDEX, x, y -> y.overtime(job, 0));
        }
        for (int operation : new int[] {LEAST, -1, 2, 5, MOST}) {
            dueThrow("operation " + operation, INDEX, x, y -> y.overtime(0, operation));
        }
        due("shorter", 1, x.overtime(0, 1));
        due("costs", 3, x.value(5));
        due("plans are gone", 0, x.value(4));
        due("the other one", 3, x.operation(0, 0, 1));
        dueThrow("duration 1", STATE, x, y -> y.overtime(0, 1));
        x.bargain(0, 1);
        due("shorter", 2, x.overtime(0, 0));
        due("all costs", 7, x.value(5));
        x.undo();
        x.undo();
        x.undo();
        due("undone", 2, x.operation(0, 1, 1));
        due("undone", 0, x.value(5));
        due("undone", 1, x.value(4));
    }

    private static void job() {
        promise = "promise 13";
        RepairShop x = shop(2, "j3,10;o00,4;o01,8;j2,999;");
        int[] unplanned = {3, 10, 2, 12, NONE, NONE};
        int[] planned = {3, 10, 2, 12, 12, 2};
        int[] unplannedWithout = {2, 999, 0, 0, NONE, NONE};
        int[] plannedWithout = {2, 999, 0, 0, NONE, 0};
        for (int what = 0; what <= 5; what++) {
            due("without a plan, " + what, unplanned[what], x.job(0, what));
            due("without operations and plan, " + what, unplannedWithout[what], x.job(1, what));
        }
        x.plan(0);
        for (int what = 0; what <= 5; what++) {
            due("planned, " + what, planned[what], x.job(0, what));
            due("without operations, " + what, plannedWithout[what], x.job(1, what));
        }
        x.breakDown(1, 5, 1);
        due("the old plan's end", 12, x.job(0, 4));
        x.shift();
        due("the present plan's end", 14, x.job(0, 4));
        due("the present plan's lateness", 4, x.job(0, 5));
        x.bargain(0, 50);
        due("not less than 0", 0, x.job(0, 5));
        for (int job : new int[] {LEAST, -1, 2, MOST}) {
            dueThrow("job " + job, INDEX, x, y -> y.job(job, 0));
            dueThrow("job " + job + " and what", INDEX, x, y -> y.job(job, 6));
        }
        for (int what : new int[] {LEAST, -1, 6, MOST}) {
            dueThrow("what " + what, ARGUMENT, x, y -> y.job(0, what));
        }
    }

    private static void operation() {
        promise = "promise 14";
        RepairShop x = shop(2, "j3,10;o00,4;o01,8;");
        int[] unplanned = {1, 8, NONE, NONE, NONE};
        int[] planned = {1, 8, 4, 4, 0};
        int[] hit = {1, 8, 4, 4, 1};
        int[] shifted = {1, 8, 4, 6, 0};
        for (int what = 0; what <= 4; what++) {
            due("without a plan, " + what, unplanned[what], x.operation(0, 1, what));
        }
        x.plan(0);
        for (int what = 0; what <= 4; what++) {
            due("planned, " + what, planned[what], x.operation(0, 1, what));
        }
        x.breakDown(1, 5, 1);
        for (int what = 0; what <= 4; what++) {
            due("hit, " + what, hit[what], x.operation(0, 1, what));
        }
        x.shift();
        for (int what = 0; what <= 4; what++) {
            due("shifted, " + what, shifted[what], x.operation(0, 1, what));
        }
        hits();
        for (int job : new int[] {LEAST, -1, 1, MOST}) {
            dueThrow("job " + job, INDEX, x, y -> y.operation(job, 0, 0));
        }
        for (int operation : new int[] {LEAST, -1, 2, MOST}) {
            dueThrow("operation " + operation, INDEX, x, y -> y.operation(0, operation, 0));
            dueThrow("operation " + operation + " and what", INDEX, x, y -> y.operation(0, operation, 5));
        }
        for (int what : new int[] {LEAST, -1, 5, MOST}) {
            dueThrow("what " + what, ARGUMENT, x, y -> y.operation(0, 0, what));
        }
    }

    /** An operation from 10 to 14 and breakdowns round it. */
    private static void hits() {
        int[][] breakdowns = {{0, 10, 0}, {0, 11, 1}, {13, 1, 1}, {14, 1, 0}, {11, 1, 1}, {5, 40, 1}};
        for (int[] breakdown : breakdowns) {
            RepairShop x = shop(2, "j1,9;o01,10;o00,4;p0;");
            x.breakDown(1, 0, 50);
            due("of another machine", 0, x.operation(0, 1, 4));
            x.breakDown(0, breakdown[0], breakdown[1]);
            due("from " + breakdown[0] + " for " + breakdown[1], breakdown[2], x.operation(0, 1, 4));
        }
    }

    private static void breakdown() {
        promise = "promise 15";
        RepairShop x = new RepairShop();
        dueThrow("none", INDEX, x, y -> y.breakdown(0, 0));
        x.breakDown(1, 500, 50);
        x.breakDown(2, 0, 1);
        int[][] want = {{1, 500, 50}, {2, 0, 1}};
        for (int breakdown = 0; breakdown < 2; breakdown++) {
            for (int what = 0; what < 3; what++) {
                due(breakdown + ", " + what, want[breakdown][what], x.breakdown(breakdown, what));
            }
        }
        for (int breakdown : new int[] {LEAST, -1, 2, MOST}) {
            dueThrow("breakdown " + breakdown, INDEX, x, y -> y.breakdown(breakdown, 0));
            dueThrow("breakdown " + breakdown + " and what", INDEX, x, y -> y.breakdown(breakdown, 3));
        }
        for (int what : new int[] {LEAST, -1, 3, MOST}) {
            dueThrow("what " + what, ARGUMENT, x, y -> y.breakdown(0, what));
        }
    }

    private static void value() {
        promise = "promise 16";
        RepairShop x = twoJobs();
        due("without a plan", "3 2 4 0 0 0 -1 -1 -1 -1", values(x));
        x.plan(0);
        due("planned", "3 2 4 0 1 0 2 2 11 0", values(x));
        x.breakDown(0, 2, 3);
        due("two are hit", "3 2 4 1 1 0 2 2 11 2", values(x));
        x.shift();
        due("shifted", "3 2 4 1 1 0 2 18 16 0", values(x));
        x.bargain(0, 2);
        due("bargained", "3 2 4 1 1 6 2 12 16 0", values(x));
        x.overtime(1, 1);
        due("overtime", "3 2 4 1 0 9 -1 -1 -1 -1", values(x));
        x = new RepairShop();
        x.plan(0);
        due("without jobs", "3 0 0 0 1 0 0 0 0 0", values(x));
        for (int what : new int[] {LEAST, -1, 10, MOST}) {
            dueThrow("what " + what, ARGUMENT, x, y -> y.value(what));
        }
    }

    private static void meeting() {
        promise = "promise 17";
        RepairShop x = twoJobs();
        due("no plan", NONE, x.meeting());
        x.plan(0);
        due("no difference", 0, x.meeting());
        x.breakDown(2, 8, 2);
        x.shift();
        due("start 9 in the old plan", 10, x.meeting());
        x.accept();
        due("accepted", 0, x.meeting());
        x = shop(2, "j1,9;o00,3;o01,1;j1,9;o11,9;p0;");
        due("starts", "0 9 | 0", starts(x, 3));
        x.breakDown(0, 0, 2);
        x.shift();
        due("only a start of 0 is different", "2 9 | 0", starts(x, 3));
        due("0 + 1", 1, x.meeting());
    }

    private static void onMachine() {
        promise = "promise 18";
        RepairShop x = twoJobs();
        due("no plan", NONE, x.onMachine(0, 0));
        x.plan(0);
        due("first on 0", 0, x.onMachine(0, 0));
        due("second on 0", 10, x.onMachine(0, 1));
        due("not so many", NONE, x.onMachine(0, 2));
        due("most", NONE, x.onMachine(0, MOST));
        due("first on 1", 1, x.onMachine(1, 0));
        due("first on 2", 11, x.onMachine(2, 0));
        x.replan(0, 2);
        x = shop(2, "j1,9;o00,5;j2,9;o10,3;p0;");
        due("first by rule 0", 10, x.onMachine(0, 0));
        due("second by rule 0", 0, x.onMachine(0, 1));
        due("an idle machine", NONE, x.onMachine(1, 0));
        x.replan(0, 1);
        due("first in the present plan", 0, x.onMachine(0, 0));
        for (int machine : new int[] {LEAST, -1, 2, MOST}) {
            dueThrow("machine " + machine, INDEX, x, y -> y.onMachine(machine, 0));
        }
        dueThrow("place -1", INDEX, x, y -> y.onMachine(0, -1));
        dueThrow("place least", INDEX, x, y -> y.onMachine(0, LEAST));
    }

    private static void latenessBy() {
        promise = "promise 19";
        RepairShop x = shop(2, "j1,7;o00,5;j9,9;o10,3;j1,5;o20,4;");
        long before = x.digest();
        due("rule 0: 1-0 to 3, 2-0 to 7, 0-0 to 12", 7, x.latenessBy(0));
        due("rule 1", 29, x.latenessBy(1));
        due("rule 2", 8, x.latenessBy(2));
        due("rule 3: 0-0 to 5, 1-0 to 8, 2-0 to 12", 7, x.latenessBy(3));
        due("changes nothing", before, x.digest());
        x.plan(1);
        x.breakDown(0, 0, 10);
        due("with a breakdown: ends 15, 18, 22", 8 + 9 * 9 + 17, x.latenessBy(3));
        due("the plans stay", "4 | 9 | 0", starts(x, 3));
        due("without jobs", 0, new RepairShop().latenessBy(3));
        for (int rule : new int[] {LEAST, -1, 4, MOST}) {
            dueThrow("rule " + rule, ARGUMENT, x, y -> y.latenessBy(rule));
        }
    }

    private static void bestRule() {
        promise = "promise 20";
        due("all alike", 0, new RepairShop().bestRule());
        RepairShop x = shop(2, "j1,7;o00,5;j9,9;o10,3;j1,5;o20,4;");
        due("7 29 8 7: the lowest", 0, x.bestRule());
        due("no plan is made", 0, x.value(4));
        due("due 3 and 7: by due date 0", 1, shop(2, "j1,4;o00,4;j1,7;o10,3;j1,9;o20,2;").bestRule());
        due("the heavy one first", 2, shop(2, "j1,4;o00,2;j9,5;o10,5;").bestRule());
        x = shop(2, "j1,0;o00,1;o00,1;j1,0;o10,1;");
        due("lowest job first: ends 2 and 3", 5, x.latenessBy(0));
        due("few left first: ends 3 and 1", 4, x.latenessBy(3));
        due("the one with few left first", 3, x.bestRule());
    }

    private static void latenessShifted() {
        promise = "promise 21";
        RepairShop x = twoJobs();
        due("no plan", NONE, x.latenessShifted());
        x.plan(0);
        due("nothing to shift", 2, x.latenessShifted());
        x.breakDown(0, 2, 3);
        due("later", 18, x.latenessShifted());
        due("the present plan stays", "0 4 | 4 9", starts(x, 3));
        x.replan(7, 1);
        due("from the old plan", 18, x.latenessShifted());
        due("the present plan stays", "7 11 | 11 16", starts(x, 3));
    }

    private static void bestReplan() {
        promise = "promise 22";
        RepairShop x = twoJobs();
        due("no plan", NONE, x.bestReplan(0));
        for (int moment : new int[] {LEAST, -1, 1000, MOST}) {
            dueThrow("no plan, moment " + moment, ARGUMENT, x, y -> y.bestReplan(moment));
        }
        x = shop(2, "j1,7;o00,5;j9,9;o10,3;j1,5;o20,4;p1;");
        due("by the old order all along", 29, x.bestReplan(999));
        due("7 29 8 7", 7, x.bestReplan(0));
        due("2-0 stays: 1-0 to 7, 0-0 to 12", 5, x.bestReplan(1));
        due("starts stay", "4 | 9 | 0", starts(x, 3));
        x = shop(2, "j1,4;o00,2;j9,5;o10,5;p0;");
        due("rule 2", 2000003, x.bestReplan(0));
        x.breakDown(0, 0, 50);
        due("from 100 on: ends 107 and 105", 2000000 + 103 + 9 * 100, x.bestReplan(100));
        due("starts stay", "0 | 2", starts(x, 3));
        for (int moment : new int[] {LEAST, -1, 1000, MOST}) {
            dueThrow("moment " + moment, ARGUMENT, x, y -> y.bestReplan(moment));
        }
    }

    private static void bestOvertime() {
        promise = "promise 23";
        due("without jobs", NONE, new RepairShop().bestOvertime(0));
        RepairShop x = shop(2, "j1,99;o00,5;");
        due("nothing is late", NONE, x.bestOvertime(0));
        x = shop(2, "j1,0;o00,1;j1,0;o10,1;");
        due("all are as short as can be", NONE, x.bestOvertime(1));
        x = shop(2, "j1,0;o00,1;o01,3;o00,3;");
        due("of several the lowest", 1, x.bestOvertime(2));
        due("changes nothing", 3, x.operation(0, 1, 1));
        due("no costs", 0, x.value(5));
        x = shop(2, "j1,0;o00,3;j9,0;o11,3;");
        due("the heavy one", 10, x.bestOvertime(3));
        // Overtime for 0-0 would put it ahead of 1-0: 4 + 9*8 instead of 9 + 9*4.
        x = shop(2, "j1,0;o00,5;j9,0;o10,4;p0;");
        due("the rule's order counts", 10, x.bestOvertime(0));
        due("plans stay", "4 | 0", starts(x, 3));
        for (int rule : new int[] {LEAST, -1, 4, MOST}) {
            dueThrow("rule " + rule, ARGUMENT, x, y -> y.bestOvertime(rule));
        }
    }

    private static void usage() {
        promise = "promise 24";
        RepairShop x = twoJobs();
        due("no plan", 0.0, x.usage());
        x.plan(0);
        due("14 of 3 * 11", 14.0 / 33.0, x.usage());
        x.breakDown(2, 8, 2);
        x.shift();
        due("14 of 3 * 12", 14.0 / 36.0, x.usage());
        x = shop(2, "j1,0;p0;");
        due("without operations", 0.0, x.usage());
        x = new RepairShop();
        x.plan(0);
        due("without jobs", 0.0, x.usage());
        due("half", 0.5, shop(2, "j1,0;o00,7;p0;").usage());
    }

    private static void append() {
        promise = "promise 25";
        RepairShop x = new RepairShop();
        for (int value : new int[] {LEAST, -1, 128, 255, MOST}) {
            dueThrow("value " + value, ARGUMENT, x, y -> y.append(value));
        }
        due("first", 1, x.append(0));
        due("second", 2, x.append(127));
        dueThrow("it is not undoable", STATE, x, y -> y.undo());
        for (int length = 3; length <= 100; length++) {
            due("byte " + length, length, x.append('p'));
        }
        dueThrow("full", STATE, x, y -> y.append('p'));
        dueThrow("full, value", ARGUMENT, x, y -> y.append(128));
    }

    private static void clearText() {
        promise = "promise 26";
        RepairShop x = new RepairShop();
        due("empty", 0, x.clearText());
        x.append('p');
        x.append('1');
        due("length", 2, x.clearText());
        due("empty", 0, x.clearText());
        due("first again", 1, x.append(';'));
        dueThrow("it is not undoable", STATE, x, y -> y.undo());
        due("a text before that was longer", -10 - 2, carryOut(x, "p01;"));
        due("a text before that was longer", 1, carryOut(x, "p1;"));
    }

    private static void carryOutOrders() {
        promise = "promise 27";
        RepairShop x = new RepairShop();
        due("no text", 0, x.carryOut());
        due("it is saved all the same", 0, x.undo());
        due("orders", 7, carryOut(x, "j9,999;j1,007;o12,01;o00,20;d2,500,50;d0,00,1;p3;"));
        due("text stays", 49, x.clearText());
        due("values", "3 2 2 2 1 0 0 0 21 0", values(x));
        due("weight", 9, x.job(0, 0));
        due("due", 999, x.job(0, 1));
        due("due with zeros", 7, x.job(1, 1));
        due("machine", 2, x.operation(1, 0, 0));
        due("duration with a zero", 1, x.operation(1, 0, 1));
        due("duration", 20, x.operation(0, 0, 1));
        due("breakdown", 500, x.breakdown(0, 1));
        due("breakdown", 50, x.breakdown(0, 2));
        due("breakdown with zeros", 0, x.breakdown(1, 1));
        due("starts", "1 | 0", starts(x, 3));
        StringBuilder plans = new StringBuilder();
        for (int order = 0; order < 33; order++) {
            plans.append("p").append(order % 4).append(";");
        }
        due("thirty-three orders", 33, carryOut(x, plans.toString()));
        x.clearText();
        due("operations take the plans away", 1, carryOut(x, "o12,5;"));
        due("operations take the plans away", 0, x.value(4));
    }

    private static void carryOutStops() {
        promise = "promise 27";
        RepairShop x = new RepairShop();
        due("a job that is missing", 1, carryOut(x, "j1,1;o10,1;j1,1;"));
        due("jobs", 1, x.value(1));
        due("a machine that is missing", 0, carryOut(x, "o03,1;o00,1;"));
        due("operations", 0, x.value(2));
        due("a sixth operation", 5, carryOut(x, "o00,1;o00,2;o00,3;o00,4;o00,5;o00,6;p0;"));
        due("no plan", 0, x.value(4));
        due("a breakdown's machine", 1, carryOut(x, "p0;d3,1,1;p1;"));
        due("a seventh job", 5, carryOut(x, "j1,1;j1,1;j1,1;j1,1;j1,1;j1,1;p0;"));
        due("plans are gone", 0, x.value(4));
        due("a seventh breakdown", 6, carryOut(x, "d0,1,1;d0,1,1;d0,1,1;d0,1,1;d0,1,1;d0,1,1;d0,1,1;p0;"));
        due("no plan", 0, x.value(4));
        x.begin(5);
        due("all machines", 3, carryOut(x, "j1,1;o04,1;d4,1,1;"));
    }

    private static void carryOutUndone() {
        promise = "promise 27";
        RepairShop x = new RepairShop();
        long before = x.digest();
        due("orders", 3, carryOut(x, "j1,1;o00,5;p0;"));
        due("undone as one", 0, x.undo());
        due("jobs", 0, x.value(1));
        due("no order is carried out", 0, carryOut(x, "o00,5;"));
        due("undone", 0, x.undo());
        due("a syntax error", -10 - 9, carryOut(x, "j1,1;j2,2"));
        dueThrow("nothing is saved", STATE, x, y -> y.undo());
        due("nothing changes", 0, x.value(1));
        due("an error behind an order that would throw", -10 - 6, carryOut(x, "o00,5;x"));
        x.clearText();
        due("as new", before, x.digest());
    }

    private static void syntaxErrors() {
        promise = "promise 27, a syntax error";
        String[] tooEarly = {"j", "j1", "j1,", "j1,1", "j1,999", "j1,1;o", "o0", "o00", "o00,", "o00,1", "o00,20",
            "d", "d0", "d0,", "d0,5", "d0,500", "d0,0,", "d0,0,1", "d0,0,50", "p", "p0"};
        for (String text : tooEarly) {
            dueError(text, text.length());
        }
        dueError("x", 0);
        dueError(" p0;", 0);
        dueError("P0;", 0);
        dueError(";", 0);
        dueError("p0;;", 3);
        dueError("p0; p0;", 3);
        dueError("p0,", 2);
        dueError("p4;", 1);
        dueError("p;", 1);
        dueError("p-1;", 1);
        dueError("p00;", 2);
        dueError("j0,5;", 1);
        dueError("j10,5;", 2);
        dueError("j:,5;", 1);
        dueError("j1;5;", 2);
        dueError("j1,;", 3);
        dueError("j1,1000;", 6);
        dueError("j1,0001;", 6);
        dueError("j1,1,", 4);
        dueError("o60,1;", 1);
        dueError("o05,1;", 2);
        dueError("o0,1;", 2);
        dueError("o000,1;", 3);
        dueError("o00,;", 4);
        dueError("d5,0,1;", 1);
        dueError("d00,1;", 2);
        dueError("d0,0;", 4);
        dueError("d0,0,1,", 6);
        dueError("d0,,1;", 3);
        dueRangeError("o00,", new String[] {"0", "00", "21", "99"}, ';');
        dueRangeError("d0,0,", new String[] {"0", "00", "51", "99"}, ';');
        dueRangeError("d0,", new String[] {"501", "999"}, ',');
        dueError("o00,210;", 6);
        dueError("o00,001;", 6);
        dueError("o00,100", 6);
        dueError("d0,5010,1;", 6);
        dueError("d0,0000,1;", 6);
        dueError("d0,0,510;", 7);
        dueError("d0,0,000;", 7);
        dueError("d0,501,51;", 3);
        dueError("o00,20x", 6);
        dueError("o00,1 ;", 5);
    }

    /** A number out of its range is told by its first digit, whatever follows it. */
    private static void dueRangeError(String before, String[] numbers, char due) {
        for (String number : numbers) {
            dueError(before + number + due, before.length());
            dueError(before + number + "x", before.length());
            dueError(before + number + (char) 0, before.length());
            dueError(before + number, before.length());
        }
    }

    private static void dueError(String text, int position) {
        RepairShop x = new RepairShop();
        due(text, -10 - position, carryOut(x, text));
        due(text + ", machines and jobs", "3 0 0 0 0 0 -1 -1 -1 -1", values(x));
        due(text + ", as a second order", -10 - 5 - position, carryOut(x, "j1,1;" + text));
        due(text + ", text stays", 5 + text.length(), x.clearText());
        dueThrow(text + ", nothing is saved", STATE, x, y -> y.undo());
    }

    private static void undo() {
        promise = "promise 28";
        RepairShop x = new RepairShop();
        dueThrow("none", STATE, x, y -> y.undo());
        for (int job = 0; job < 6; job++) {
            x.addJob(1, job);
        }
        for (int left = 3; left >= 0; left--) {
            due("left", left, x.undo());
            due("jobs", 2 + left, x.value(1));
        }
        dueThrow("only four are saved", STATE, x, y -> y.undo());
        due("the oldest one was dropped", 2, x.value(1));
        x.addJob(1, 9);
        x.addJob(1, 9);
        due("one of two", 1, x.undo());
        x.addJob(1, 7);
        due("one of two again", 1, x.undo());
        due("the other one", 0, x.undo());
        due("jobs", 2, x.value(1));
        undoBringsAllBack();
        undoBringsRowsBack();
        undoAfterNothing();
    }

    private static void undoBringsAllBack() {
        RepairShop x = shop(5, "j3,10;o00,4;o01,3;j2,10;o10,5;o12,2;d0,9,1;p0;");
        x.bargain(0, 3);
        x.shift();
        x.append('p');
        Checks.Call[] calls = {y -> y.begin(2), y -> y.addJob(1, 1), y -> y.addOperation(1, 4, 2),
            y -> y.breakDown(1, 1, 1), y -> y.repaired(), y -> y.plan(2), y -> y.shift(), y -> y.replan(5, 2),
            y -> y.accept(), y -> y.bargain(0, 7), y -> y.overtime(0, 0)};
        x.accept();
        x.accept();
        long before = x.digest();
        for (int call = 0; call < calls.length; call++) {
            calls[call].on(x);
            due("left after call " + call, 3, x.undo());
            x.accept();
            due("as before call " + call, before, x.digest());
        }
        due("the text is not undone", 1, x.clearText());
    }

    /** What is written over after a call comes back with it. */
    private static void undoBringsRowsBack() {
        RepairShop x = shop(3, "j3,10;o02,4;d2,10,20;");
        String before = allOf(x);
        x.begin(5);
        x.addJob(5, 50);
        x.addOperation(0, 1, 7);
        x.breakDown(1, 11, 21);
        due("after begin", 3, x.undo());
        x.undo();
        x.undo();
        due("nothing left", 0, x.undo());
        due("job, operation and breakdown", before, allOf(x));
        x.repaired();
        x.breakDown(0, 30, 40);
        x.undo();
        x.undo();
        due("the breakdown taken away", before, allOf(x));
        x.addOperation(0, 2, 9);
        x.plan(0);
        x.breakDown(2, 0, 9);
        x.shift();
        due("shifted", "30 34", starts(x, 3));
        x.undo();
        due("present plan", "0 30", starts(x, 3));
        x.undo();
        x.replan(0, 0);
        x.undo();
        due("plans", "0 30 0 30", starts(x, 2) + " " + starts(x, 3));
    }

    private static void undoAfterNothing() {
        RepairShop x = new RepairShop();
        x.plan(0);
        x.plan(0);
        x.accept();
        x.shift();
        due("calls that change nothing are saved, too", 3, x.undo());
        due("still planned", 1, x.value(4));
        x.undo();
        x.undo();
        due("the last one", 0, x.undo());
        due("not planned", 0, x.value(4));
        x.addJob(1, 1);
        x.latenessBy(0);
        x.bestRule();
        x.append('p');
        x.clearText();
        x.digest();
        due("other calls save nothing", 0, x.undo());
    }

    private static void digest() {
        promise = "promise 29";
        due("new", hash(0, 3, 0, 0, 0, 0, 0, -1, -1, -1, -1, -1, -1, 0), new RepairShop().digest());
        RepairShop x = new RepairShop();
        x.append('p');
        x.begin(2);
        x.addJob(3, 10);
        x.addOperation(0, 0, 4);
        x.addOperation(0, 1, 8);
        x.addJob(2, 1);
        due("without a plan", hash(1, 2, 2, 2, 0, 0, 0, -1, -1, -1, -1,
                3, 10, 2, 12, -1, -1, 0, 4, -1, -1, -1, 1, 8, -1, -1, -1,
                2, 1, 0, 0, -1, -1, -1, -1, 4), x.digest());
        x.undo();
        x.plan(0);
        x.bargain(0, 1);
        x.breakDown(1, 5, 1);
        due("with a plan", hash(1, 2, 1, 2, 1, 1, 3, 3, 3, 12, 1,
                3, 11, 2, 12, 12, 1, 0, 4, 0, 0, 0, 1, 8, 4, 4, 1,
                1, 5, 1, 0, 9, 4), x.digest());
        x.shift();
        due("shifted", hash(1, 2, 1, 2, 1, 1, 3, 3, 9, 14, 0,
                3, 11, 2, 12, 14, 3, 0, 4, 0, 0, 0, 1, 8, 4, 6, 0,
                1, 5, 1, 5, 9, 4), x.digest());
    }

    private static long hash(int... values) {
        long h = 3719;
        for (int v : values) {
            h = 31 * h + v;
        }
        return h;
    }
}
