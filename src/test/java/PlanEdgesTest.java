/** The edges that promises 7 to 12 name. */
public final class PlanEdgesTest extends Edges {
    /** Starts 0 and 4. */
    private static final Maker ONE = by(2, "j1,0;o00,4;o01,3;p0;");
    /** On one machine; starts 0, 5 and 9 by rule 1, of which rule 0 makes 7, 3 and 0. */
    private static final Maker THREE = by(2, "j1,0;o00,5;j1,1;o10,4;j1,2;o20,3;p1;");
    private static final Maker NO_PLAN = by(2, "j1,0;o00,4;o01,3;");
    private static final Maker PLAN_ALONE = by(2, "p0;");

    public static void main(String[] args) {
        plan();
        planWithoutAnyStart();
        planUndone();
        planRule();
        planReturns();
        planThrows();
        shiftNothing();
        shiftAsFarAsNeeded();
        shiftInJobs();
        shiftOnMachines();
        shiftRoundBreakdowns();
        shiftFromTheOldPlan();
        shiftUndone();
        shiftReturns();
        shiftThrows();
        replanKeeps();
        replanKeepsNoHit();
        replanLosesWhatIsBehind();
        replanFills();
        replanNothing();
        replanKeepsTheOldPlan();
        replanUndone();
        replanMoment();
        replanRule();
        replanReturns();
        replanThrowsArgument();
        replanThrowsState();
        accept();
        acceptUndone();
        acceptReturns();
        acceptThrows();
        bargain();
        bargainUndone();
        bargainJob();
        bargainUnits();
        bargainReturns();
        bargainThrowsIndex();
        bargainThrowsArgument();
        bargainThrowsState();
        overtime();
        overtimeUndone();
        overtimeJob();
        overtimeOperation();
        overtimeReturns();
        overtimeThrowsIndex();
        overtimeThrowsState();
        close("PlanEdgesTest");
    }

    private static String plans(RepairShop x) {
        return starts(x, OLD) + " then " + starts(x, PRESENT);
    }

    private static void plan() {
        sentence("Promise 7", "Plans: the old plan and the present one become that plan which is filled with a rule "
                + "from 0 on, without any start at first.");
        RepairShop x = new RepairShop();
        x.plan(3);
        due("nothing to plan", "3 0 0 0 1 0 0 0 0 0", values(x));
        x = shop(2, "j1,0;");
        x.plan(3);
        due("no operations", "2 1 0 0 1 0 0 0 0 0", values(x));
        x = shop(2, "j1,0;o01,20;");
        x.plan(3);
        due("one, in both", "0 then 0", plans(x));
        x = made(full(2, 0));
        due("all that there is room for, in both", starts(x, OLD), starts(x, PRESENT));
        due("the last one", 580, x.operation(5, 4, OLD));
    }

    private static void planWithoutAnyStart() {
        sentence("Promise 7", "Plans: the old plan and the present one become that plan which is filled with a rule "
                + "from 0 on, without any start at first.");
        RepairShop x = made(THREE);
        x.breakDown(0, 0, 1);
        x.replan(999, 0);
        x.repaired();
        due("starts from before", "0 | 5 | 9 then 999 | 5 | 9", plans(x));
        x.plan(0);
        due("anew by rule 0", "7 | 3 | 0 then 7 | 3 | 0", plans(x));
        x.plan(1);
        due("anew by rule 1", "0 | 5 | 9 then 0 | 5 | 9", plans(x));
    }

    private static void planUndone() {
        sentence("Promise 7", "Undoable.");
        undoable("of a new object", NEW, y -> y.plan(0));
        undoable("the first plan", NO_PLAN, y -> y.plan(0));
        undoable("the same plan, which changes nothing", ONE, y -> y.plan(0));
        undoable("another plan", THREE.and(x -> x.replan(5, 0)), y -> y.plan(0));
        undoable("of a full shop", full(2, 0), y -> y.plan(0));
    }

    private static void planRule() {
        sentence("Promise 7", "- `rule`: 0 to 3");
        refused("-1", ARGUMENT, THREE, y -> y.plan(-1));
        for (int rule = 0; rule <= 3; rule++) {
            RepairShop x = made(THREE);
            x.plan(rule);
            due("by rule " + rule, rule == 0 ? "7 | 3 | 0" : "0 | 5 | 9", starts(x, PRESENT));
        }
        refused("4", ARGUMENT, THREE, y -> y.plan(4));
    }

    private static void planReturns() {
        sentence("Promise 7", "Returns its lateness.");
        due("nothing to plan", 0, new RepairShop().plan(0));
        due("no operations", 0, shop(2, "j9,0;").plan(0));
        due("just in time", 0, shop(2, "j9,7;o00,4;o01,3;").plan(0));
        due("late by 1", 9, shop(2, "j9,6;o00,4;o01,3;").plan(0));
        due("all that there is room for", 9 * 2100, made(full(2, 0)).plan(0));
    }

    private static void planThrows() {
        sentence("Promise 7", "Throws `IllegalArgumentException` if rule is out of range");
        for (int rule : new int[] {LEAST, -2, -1, 4, 5, MOST}) {
            refused("plan(" + rule + ")", ARGUMENT, THREE, y -> y.plan(rule));
            refused("plan(" + rule + ") without a plan", ARGUMENT, NO_PLAN, y -> y.plan(rule));
        }
    }

    // ---- shift

    private static final String SHIFTS = "Shifts: the present plan becomes the old one, shifted later as far as "
            + "needed: again and again, each operation gets the least start that is at least its start in the old "
            + "plan, at least the end, as it is shifted, of the operation before it in its job and of each "
            + "operation on its machine that starts earlier in the old plan, and with which it hits no breakdown.";

    /** The present plan after a shift round one more breakdown. */
    private static String shifted(Maker maker, int machine, int begin, int length) {
        RepairShop x = made(maker);
        x.breakDown(machine, begin, length);
        x.shift();
        return starts(x, PRESENT);
    }

    private static void shiftNothing() {
        sentence("Promise 8", SHIFTS);
        RepairShop x = made(PLAN_ALONE);
        x.shift();
        due("no operations", "2 0 0 0 1 0 0 0 0 0", values(x));
        x = made(ONE);
        x.shift();
        due("no breakdown", "0 4 then 0 4", plans(x));
        due("a breakdown that is hit by none", "0 4", shifted(ONE, 0, 4, 50));
        due("nor this one", "0 4", shifted(ONE, 1, 0, 4));
    }

    private static void shiftAsFarAsNeeded() {
        sentence("Promise 8", SHIFTS);
        due("a breakdown that ends at 1", "1 5", shifted(ONE, 0, 0, 1));
        due("a breakdown of the last moment", "4 8", shifted(ONE, 0, 3, 1));
        due("the other machine's breakdown", "0 5", shifted(ONE, 1, 4, 1));
        due("its last moment", "0 7", shifted(ONE, 1, 6, 1));
        // The old plan waits for a breakdown that is gone then.
        Maker waiting = by(2, "j1,0;o00,3;d0,0,5;p0;").and(x -> x.repaired());
        RepairShop x = made(waiting);
        x.shift();
        due("at least its start in the old plan", "5", starts(x, PRESENT));
        due("no later than that", "5", shifted(waiting, 0, 0, 5));
        due("1 later than that", "6", shifted(waiting, 0, 0, 6));
    }

    private static void shiftInJobs() {
        sentence("Promise 8", SHIFTS);
        // 0 6: there are 2 to spare between the two.
        Maker spare = by(2, "j1,0;o00,4;o01,3;d1,4,2;p0;").and(x -> x.repaired());
        due("to spare", "0 6", starts(made(spare), PRESENT));
        due("by 1", "1 6", shifted(spare, 0, 0, 1));
        due("by 2, which is all", "2 6", shifted(spare, 0, 0, 2));
        due("by 3", "3 7", shifted(spare, 0, 0, 3));
        Maker five = by(5, "j1,0;o00,1;o01,2;o02,3;o03,4;o04,5;p0;");
        due("one after the other", "9 10 12 15 19", shifted(five, 0, 0, 9));
        due("from the middle on", "0 1 7 10 14", shifted(five, 2, 5, 2));
    }

    private static void shiftOnMachines() {
        sentence("Promise 8", SHIFTS);
        due("one after the other", "1 | 6 | 10", shifted(THREE, 0, 0, 1));
        due("from the middle on", "0 | 7 | 11", shifted(THREE, 0, 5, 2));
        due("the last alone", "0 | 5 | 20", shifted(THREE, 0, 10, 10));
        due("in the order of the old plan", "10 | 15 | 19", shifted(THREE, 0, 4, 6));
        due("on another machine", "10 | 0", shifted(by(2, "j1,0;o00,5;j1,0;o11,5;p0;"), 0, 0, 10));
        // Job 1 starts at 7 in the old plan, 2 later than job 0 ends.
        Maker spare = by(2, "j1,0;o00,5;j1,1;o10,4;d0,5,2;p1;").and(x -> x.repaired());
        due("to spare", "0 | 7", starts(made(spare), PRESENT));
        due("by 2, which is all", "2 | 7", shifted(spare, 0, 0, 2));
        due("by 3", "3 | 8", shifted(spare, 0, 0, 3));
        // 1-1 waits for 0-0 on its machine and for 1-0 in its job.
        Maker both = by(2, "j1,0;o00,5;j1,0;o11,5;o10,3;p0;");
        due("both, before", "0 | 0 5", starts(made(both), PRESENT));
        due("its job's later", "2 | 3 8", shifted(both.and(x -> x.breakDown(0, 0, 2)), 1, 0, 3));
        due("its machine's later", "3 | 2 8", shifted(both.and(x -> x.breakDown(0, 0, 3)), 1, 0, 2));
    }

    private static void shiftRoundBreakdowns() {
        sentence("Promise 8", SHIFTS);
        Maker one = by(2, "j1,0;o00,3;p0;");
        RepairShop x = made(one);
        giveOrders(x, "d0,15,1;d0,12,1;d0,9,1;d0,6,1;d0,3,1;d0,0,1;");
        x.shift();
        due("behind all six, the latest first", "16", starts(x, PRESENT));
        x.undo();
        x.repaired();
        x.shift();
        due("five leave room at 0", "0", starts(x, PRESENT));
        x = made(one);
        giveOrders(x, "d0,0,2;d0,5,2;");
        x.shift();
        due("fits between", "2", starts(x, PRESENT));
        x = made(one);
        giveOrders(x, "d0,0,2;d0,4,2;");
        x.shift();
        due("1 too long to fit between", "6", starts(x, PRESENT));
        x = made(full(2, 0));
        giveOrders(x, "d0,499,1;");
        x.shift();
        due("from 480 on", "400 420 440 460 500 | 520 540 560 580 600",
                starts(x, PRESENT).replaceFirst(".*(400 .*)", "$1"));
        x = made(full(2, 0).and(y -> y.breakDown(0, 500, 50)));
        x.shift();
        due("from 500 on", "400 420 440 460 480 | 550 570 590 610 630",
                starts(x, PRESENT).replaceFirst(".*(400 .*)", "$1"));
    }

    private static void shiftFromTheOldPlan() {
        sentence("Promise 8", SHIFTS);
        RepairShop x = made(THREE);
        x.replan(0, 0);
        due("a present one that is another", "0 | 5 | 9 then 7 | 3 | 0", plans(x));
        x.shift();
        due("is dropped", "0 | 5 | 9 then 0 | 5 | 9", plans(x));
        x.replan(0, 0);
        x.breakDown(0, 5, 1);
        x.shift();
        due("is dropped, too", "0 | 5 | 9 then 0 | 6 | 10", plans(x));
        x.shift();
        due("the same again", "0 | 5 | 9 then 0 | 6 | 10", plans(x));
        x.repaired();
        x.shift();
        due("back again", "0 | 5 | 9 then 0 | 5 | 9", plans(x));
    }

    private static void shiftUndone() {
        sentence("Promise 8", "Undoable.");
        undoable("nothing to shift, which changes nothing", PLAN_ALONE, y -> y.shift());
        undoable("no breakdown, which changes nothing", ONE, y -> y.shift());
        undoable("from a present plan that is another", THREE.and(x -> x.replan(0, 0)), y -> y.shift());
        undoable("all are shifted", full(2, 0).and(x -> x.breakDown(0, 0, 1)), y -> y.shift());
    }

    private static void shiftReturns() {
        sentence("Promise 8", "Returns its lateness.");
        due("no operations", 0, made(PLAN_ALONE).shift());
        due("nothing is shifted", 7, made(ONE).shift());
        due("by 1", 8, made(ONE.and(x -> x.breakDown(0, 0, 1))).shift());
        due("just in time", 0, made(by(2, "j9,8;o00,4;o01,3;p0;d0,0,1;")).shift());
        due("late by 1", 9, made(by(2, "j9,7;o00,4;o01,3;p0;d0,0,1;")).shift());
        due("all by 50", 9 * (2100 + 6 * 50), made(full(2, 0).and(x -> x.breakDown(0, 0, 50))).shift());
    }

    private static void shiftThrows() {
        sentence("Promise 8", "Throws `IllegalStateException` if there is no plan");
        refused("of a new object", STATE, NEW, y -> y.shift());
        refused("none yet", STATE, NO_PLAN, y -> y.shift());
        refused("none any more", STATE, ONE.and(x -> x.addJob(1, 1)), y -> y.shift());
        refused("undone", STATE, NO_PLAN.and(x -> x.plan(0)).and(x -> x.undo()), y -> y.shift());
        refused("after begin", STATE, ONE.and(x -> x.begin(2)), y -> y.shift());
    }

    // ---- replan

    private static final String KEEPS = "Plans anew from a moment on: the operations whose start in the present "
            + "plan is less than the moment, and which hit no breakdown with it, keep it, as long as all operations "
            + "before them in their jobs keep theirs, too; the others lose it; then the present plan is filled with "
            + "a rule from the moment on.";

    private static String replanned(Maker maker, int moment, int rule) {
        RepairShop x = made(maker);
        x.replan(moment, rule);
        return starts(x, PRESENT);
    }

    private static void replanKeeps() {
        sentence("Promise 9", KEEPS);
        due("none is less than 0", "7 | 3 | 0", replanned(THREE, 0, 0));
        due("0 is less than 1", "0 | 8 | 5", replanned(THREE, 1, 0));
        due("5 is not less than 5", "0 | 8 | 5", replanned(THREE, 5, 0));
        due("5 is less than 6", "0 | 5 | 9", replanned(THREE, 6, 0));
        due("9 is less than 999", "0 | 5 | 9", replanned(THREE, 999, 0));
    }

    private static void replanKeepsNoHit() {
        sentence("Promise 9", KEEPS);
        Maker job = by(2, "j1,0;o00,5;o01,3;p0;");
        due("ends at a breakdown's begin", "0 5", replanned(job.and(x -> x.breakDown(0, 5, 1)), 10, 0));
        due("ends 1 after it", "10 15", replanned(job.and(x -> x.breakDown(0, 4, 1)), 10, 0));
        due("begins at a breakdown's end", "0 5", replanned(job.and(x -> x.breakDown(1, 0, 5)), 10, 0));
        due("begins 1 before it", "0 10", replanned(job.and(x -> x.breakDown(1, 0, 6)), 10, 0));
        due("begins 1 before it, at once", "0 6", replanned(job.and(x -> x.breakDown(1, 0, 6)), 6, 0));
        due("a breakdown of another machine", "0 5", replanned(job.and(x -> x.breakDown(1, 0, 1)), 10, 0));
    }

    private static void replanLosesWhatIsBehind() {
        sentence("Promise 9", KEEPS);
        Maker job = by(2, "j1,0;o00,2;o01,2;o00,2;p0;");
        due("none is hit", "0 2 4", replanned(job, 9, 0));
        due("the first is hit", "9 11 13", replanned(job.and(x -> x.breakDown(0, 1, 1)), 9, 0));
        due("the second is hit", "0 9 11", replanned(job.and(x -> x.breakDown(1, 2, 1)), 9, 0));
        due("the last is hit", "0 2 9", replanned(job.and(x -> x.breakDown(0, 4, 1)), 9, 0));
        // 1-0 is behind 0-0 on their machine, but not in a job.
        Maker jobs = by(2, "j1,0;o00,2;o01,2;j1,1;o10,5;p1;");
        due("another job keeps its start", "7 9 | 2", replanned(jobs.and(x -> x.breakDown(0, 0, 1)), 6, 0));
        due("all but the first job", "999 1019 1039 1059 1079 | 100 120 140 160 180",
                replanned(full(2, 0).and(x -> x.breakDown(0, 19, 1)), 999, 0).replaceFirst(" \\| 200.*", ""));
    }

    private static void replanFills() {
        sentence("Promise 9", KEEPS);
        due("by rule 0", "0 | 8 | 5", replanned(THREE, 1, 0));
        for (int rule = 1; rule <= 3; rule++) {
            due("by rule " + rule, "0 | 5 | 9", replanned(THREE, 1, rule));
        }
        Maker hit = THREE.and(x -> x.breakDown(0, 0, 1));
        for (int moment : new int[] {12, 13, 500, 999}) {
            due("from the moment on", moment + " | 5 | 9", replanned(hit, moment, 0));
        }
        due("from the end of what is kept on", "12 | 5 | 9", replanned(hit, 10, 0));
        due("not in a breakdown", "0 | 11 | 8", replanned(THREE.and(x -> x.breakDown(0, 5, 3)), 5, 0));
        due("behind a breakdown of the last moments", "550 | 5 | 9",
                replanned(hit.and(x -> x.breakDown(0, 500, 50)), 500, 0));
    }

    private static void replanNothing() {
        sentence("Promise 9", KEEPS);
        for (int moment : new int[] {0, 999}) {
            RepairShop x = made(PLAN_ALONE);
            due("no jobs", 0, x.replan(moment, 3));
            due("no jobs", "2 0 0 0 1 0 0 0 0 0", values(x));
            due("no operations", 0, shop(2, "j9,0;p0;").replan(moment, 3));
            x = made(full(2, 0));
            x.replan(moment, 0);
            due("all that there is room for", starts(x, OLD), starts(x, PRESENT));
        }
    }

    private static void replanKeepsTheOldPlan() {
        sentence("Promise 9", "The old plan stays.");
        RepairShop x = made(THREE);
        x.replan(0, 0);
        due("once", "0 | 5 | 9 then 7 | 3 | 0", plans(x));
        x.replan(1, 1);
        due("twice, from the present plan", "0 | 5 | 9 then 3 | 8 | 0", plans(x));
        x.replan(0, 1);
        due("as it was", "0 | 5 | 9 then 0 | 5 | 9", plans(x));
    }

    private static void replanUndone() {
        sentence("Promise 9", "Undoable.");
        undoable("nothing to plan, which changes nothing", PLAN_ALONE, y -> y.replan(0, 0));
        undoable("all are kept, which changes nothing", THREE, y -> y.replan(999, 0));
        undoable("none is kept", THREE, y -> y.replan(0, 0));
        undoable("of a full shop", full(2, 0).and(x -> x.breakDown(0, 0, 50)), y -> y.replan(999, 0));
    }

    private static void replanMoment() {
        sentence("Promise 9", "- `moment`: 0 to 999");
        refused("-1", ARGUMENT, THREE, y -> y.replan(-1, 0));
        Maker hit = by(2, "j1,0;o00,1;p0;d0,0,1;");
        for (int moment : new int[] {1, 2, 998, 999}) {
            due("from the moment on", "" + moment, replanned(hit, moment, 0));
        }
        due("0", "7 | 3 | 0", replanned(THREE, 0, 0));
        refused("1000", ARGUMENT, THREE, y -> y.replan(1000, 0));
    }

    private static void replanRule() {
        sentence("Promise 9", "- `rule`: 0 to 3");
        refused("-1", ARGUMENT, THREE, y -> y.replan(0, -1));
        for (int rule = 0; rule <= 3; rule++) {
            due("rule " + rule, rule == 0 ? "7 | 3 | 0" : "0 | 5 | 9", replanned(THREE, 0, rule));
        }
        refused("4", ARGUMENT, THREE, y -> y.replan(0, 4));
    }

    private static void replanReturns() {
        sentence("Promise 9", "Returns the lateness of the present plan then.");
        due("no operations", 0, made(PLAN_ALONE).replan(0, 0));
        due("all are kept", 5 + 8 + 10, made(THREE).replan(999, 0));
        due("none is kept", 12 + 6 + 1, made(THREE).replan(0, 0));
        due("just in time", 0, made(by(2, "j9,999;o00,1;p0;d0,0,1;")).replan(998, 0));
        due("late by 1", 9, made(by(2, "j9,999;o00,1;p0;d0,0,1;")).replan(999, 0));
    }

    private static void replanThrowsArgument() {
        sentence("Promise 9", "Throws `IllegalArgumentException` if an argument is out of range");
        for (Maker maker : new Maker[] {THREE, NO_PLAN, NEW}) {
            for (int moment : new int[] {LEAST, -2, -1, 1000, 1001, MOST}) {
                refused("moment " + moment, ARGUMENT, maker, y -> y.replan(moment, 0));
                refused("both, moment " + moment, ARGUMENT, maker, y -> y.replan(moment, 4));
            }
            for (int rule : new int[] {LEAST, -2, -1, 4, 5, MOST}) {
                refused("rule " + rule, ARGUMENT, maker, y -> y.replan(0, rule));
            }
        }
    }

    private static void replanThrowsState() {
        sentence("Promise 9", "Throws `IllegalStateException` if there is no plan");
        refused("of a new object", STATE, NEW, y -> y.replan(0, 0));
        refused("none yet", STATE, NO_PLAN, y -> y.replan(999, 3));
        refused("none any more", STATE, THREE.and(x -> x.overtime(0, 0)), y -> y.replan(0, 0));
        refused("undone", STATE, NO_PLAN.and(x -> x.plan(0)).and(x -> x.undo()), y -> y.replan(0, 0));
    }

    // ---- accept

    private static void accept() {
        sentence("Promise 10", "Makes the present plan the old one, too.");
        RepairShop x = made(THREE);
        x.replan(0, 0);
        due("before", "0 | 5 | 9 then 7 | 3 | 0", plans(x));
        x.accept();
        due("after", "7 | 3 | 0 then 7 | 3 | 0", plans(x));
        x.accept();
        due("after that", "7 | 3 | 0 then 7 | 3 | 0", plans(x));
        x.replan(0, 1);
        due("each is its own again", "7 | 3 | 0 then 0 | 5 | 9", plans(x));
    }

    private static void acceptUndone() {
        sentence("Promise 10", "Undoable.");
        undoable("no operations, which changes nothing", PLAN_ALONE, y -> y.accept());
        undoable("the same plan, which changes nothing", THREE, y -> y.accept());
        undoable("another plan", THREE.and(x -> x.replan(0, 0)), y -> y.accept());
    }

    private static void acceptReturns() {
        sentence("Promise 10", "Returns the operations whose starts were different.");
        due("no operations", 0, made(PLAN_ALONE).accept());
        due("none", 0, made(THREE).accept());
        due("one", 1, made(THREE.and(x -> x.breakDown(0, 9, 1)).and(x -> x.shift())).accept());
        due("the last of all", 1, made(UNEVEN.and(x -> x.breakDown(0, 5, 1)).and(x -> x.shift())).accept());
        due("two", 2, made(THREE.and(x -> x.breakDown(0, 5, 1)).and(x -> x.shift())).accept());
        due("all three", 3, made(THREE.and(x -> x.replan(0, 0))).accept());
        RepairShop x = made(full(2, 0).and(y -> y.breakDown(0, 0, 1)).and(y -> y.shift()));
        due("all that there is room for", 30, x.accept());
        due("none after it", 0, x.accept());
    }

    private static void acceptThrows() {
        sentence("Promise 10", "Throws `IllegalStateException` if there is no plan");
        refused("of a new object", STATE, NEW, y -> y.accept());
        refused("none yet", STATE, NO_PLAN, y -> y.accept());
        refused("none any more", STATE, THREE.and(x -> x.addOperation(0, 0, 1)), y -> y.accept());
        refused("undone", STATE, NO_PLAN.and(x -> x.plan(0)).and(x -> x.undo()), y -> y.accept());
    }

    // ---- bargain

    private static void bargain() {
        sentence("Promise 11", "Bargains for a due date.");
        RepairShop x = made(THREE);
        x.bargain(1, 7);
        due("its due date", 8, x.job(1, 1));
        due("the others stay", "0 2", x.job(0, 1) + " " + x.job(2, 1));
        due("lateness in both plans, which stay", "16 16", x.value(6) + " " + x.value(7));
        due("plans", "0 | 5 | 9 then 0 | 5 | 9", plans(x));
        due("costs", 7, x.value(5));
        x.bargain(1, 1);
        due("just in time", 0, x.job(1, 5));
        x.bargain(1, 99);
        due("not less than 0", 0, x.job(1, 5));
    }

    private static void bargainUndone() {
        sentence("Promise 11", "Undoable.");
        undoable("by 1", THREE, y -> y.bargain(2, 1));
        undoable("by 99", NO_PLAN, y -> y.bargain(0, 99));
        undoable("again", THREE.and(x -> x.bargain(2, 1)), y -> y.bargain(2, 1));
    }

    private static void bargainJob() {
        sentence("Promise 11", "- `job`: number of a job");
        Maker six = by(2, "j1,0;j1,0;j1,0;j1,0;j1,0;j1,0;");
        refused("-1", INDEX, six, y -> y.bargain(-1, 1));
        for (int job = 0; job < 6; job++) {
            RepairShop x = made(six);
            x.bargain(job, 1);
            due("job " + job, 1, x.job(job, 1));
        }
        refused("6 of six", INDEX, six, y -> y.bargain(6, 1));
        refused("3 of three", INDEX, THREE, y -> y.bargain(3, 1));
        refused("0 of none", INDEX, NEW, y -> y.bargain(0, 1));
    }

    private static void bargainUnits() {
        sentence("Promise 11", "- `units`: 1 to 99");
        refused("0", ARGUMENT, THREE, y -> y.bargain(0, 0));
        for (int units : new int[] {1, 2, 98, 99}) {
            RepairShop x = made(THREE);
            x.bargain(0, units);
            due("units", units, x.job(0, 1));
        }
        refused("100", ARGUMENT, THREE, y -> y.bargain(0, 100));
    }

    private static void bargainReturns() {
        sentence("Promise 11", "Returns the due date then.");
        RepairShop x = shop(2, "j1,0;j1,900;");
        due("from 0 on", 1, x.bargain(0, 1));
        due("further on", 100, x.bargain(0, 99));
        due("the last one", 999, x.bargain(1, 99));
    }

    private static void bargainThrowsIndex() {
        sentence("Promise 11", "Throws `IndexOutOfBoundsException` if there is no such job");
        for (int job : new int[] {LEAST, -1, 3, 5, 6, MOST}) {
            refused("job " + job, INDEX, THREE, y -> y.bargain(job, 1));
            refused("units, too, job " + job, INDEX, THREE, y -> y.bargain(job, 0));
            refused("units of 100, too, job " + job, INDEX, THREE, y -> y.bargain(job, 100));
        }
    }

    private static void bargainThrowsArgument() {
        sentence("Promise 11", "Throws `IllegalArgumentException` if units is out of range");
        Maker last = by(2, "j1,999;");
        for (int units : new int[] {LEAST, -1000, -1, 0, 100, 101, MOST}) {
            refused("units " + units, ARGUMENT, THREE, y -> y.bargain(0, units));
            refused("too late, too, units " + units, ARGUMENT, last, y -> y.bargain(0, units));
        }
    }

    private static void bargainThrowsState() {
        sentence("Promise 11", "Throws `IllegalStateException` if the due date would be greater than 999");
        int[][] fine = {{998, 1}, {900, 99}, {901, 98}};
        for (int[] one : fine) {
            due("from " + one[0] + " by " + one[1], 999, made(by(2, "j1," + one[0] + ";")).bargain(0, one[1]));
        }
        int[][] greater = {{999, 1}, {998, 2}, {901, 99}, {999, 99}};
        for (int[] one : greater) {
            refused("from " + one[0] + " by " + one[1], STATE, by(2, "j1," + one[0] + ";"), y -> y.bargain(0, one[1]));
        }
        due("another job", 1, made(by(2, "j1,999;j1,0;")).bargain(1, 1));
    }

    // ---- overtime

    private static void overtime() {
        sentence("Promise 12", "Buys overtime for an operation.");
        RepairShop x = made(ONE);
        x.overtime(0, 1);
        due("its duration", 2, x.operation(0, 1, 1));
        due("the other one's stays", 4, x.operation(0, 0, 1));
        due("their sum", 6, x.job(0, 3));
        due("costs", 3, x.value(5));
        due("no plan", 0, x.value(4));
        due("a new plan", 6, x.plan(0));
    }

    private static void overtimeUndone() {
        sentence("Promise 12", "Undoable.");
        undoable("from 20", full(2, 0), y -> y.overtime(5, 4));
        undoable("from 2", by(2, "j1,0;o00,2;"), y -> y.overtime(0, 0));
        undoable("again", ONE.and(x -> x.overtime(0, 0)), y -> y.overtime(0, 0));
    }

    private static void overtimeJob() {
        sentence("Promise 12", "- `job`: number of a job");
        refused("-1", INDEX, full(2, 0), y -> y.overtime(-1, 0));
        for (int job = 0; job < 6; job++) {
            RepairShop x = made(full(2, 0));
            x.overtime(job, 0);
            due("job " + job, 99, x.job(job, 3));
        }
        refused("6 of six", INDEX, full(2, 0), y -> y.overtime(6, 0));
        refused("1 of one", INDEX, ONE, y -> y.overtime(1, 0));
        refused("0 of none", INDEX, NEW, y -> y.overtime(0, 0));
    }

    private static void overtimeOperation() {
        sentence("Promise 12", "- `operation`: number of an operation of it");
        refused("-1", INDEX, full(2, 0), y -> y.overtime(0, -1));
        for (int operation = 0; operation < 5; operation++) {
            RepairShop x = made(full(2, 0));
            x.overtime(3, operation);
            due("operation " + operation, 19, x.operation(3, operation, 1));
        }
        refused("5 of five", INDEX, full(2, 0), y -> y.overtime(0, 5));
        refused("2 of two", INDEX, ONE, y -> y.overtime(0, 2));
        refused("0 of none", INDEX, by(2, "j1,0;j1,0;o10,5;"), y -> y.overtime(0, 0));
    }

    private static void overtimeReturns() {
        sentence("Promise 12", "Returns its duration then.");
        RepairShop x = made(full(2, 0));
        for (int duration = 19; duration >= 1; duration--) {
            due("duration", duration, x.overtime(0, 0));
        }
        due("of another one", 19, x.overtime(0, 1));
    }

    private static void overtimeThrowsIndex() {
        sentence("Promise 12", "Throws `IndexOutOfBoundsException` if there is no such job or operation");
        for (int job : new int[] {LEAST, -1, 1, 5, 6, MOST}) {
            refused("job " + job, INDEX, ONE, y -> y.overtime(job, 0));
        }
        for (int operation : new int[] {LEAST, -1, 2, 4, 5, MOST}) {
            refused("operation " + operation, INDEX, ONE, y -> y.overtime(0, operation));
            refused("job and operation " + operation, INDEX, ONE, y -> y.overtime(1, operation));
        }
        // The places of a job's operations may lie side by side with another job's.
        refused("operation 5 of job 0 is not 0 of job 1", INDEX, full(2, 0), y -> y.overtime(0, 5));
        refused("operation -1 of job 1 is not 4 of job 0", INDEX, full(2, 0), y -> y.overtime(1, -1));
    }

    private static void overtimeThrowsState() {
        sentence("Promise 12", "Throws `IllegalStateException` if its duration is 1");
        refused("1 from the first", STATE, by(2, "j1,0;o00,1;p0;"), y -> y.overtime(0, 0));
        refused("1 by overtime", STATE, by(2, "j1,0;o00,2;").and(x -> x.overtime(0, 0)), y -> y.overtime(0, 0));
        due("2", 1, made(by(2, "j1,0;o00,2;")).overtime(0, 0));
        due("another one's is 1", 1, made(by(2, "j1,0;o00,1;o00,2;")).overtime(0, 1));
    }
}
