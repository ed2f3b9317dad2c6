/** The edges that the document's terms name, but for text, undo and exceptions. */
public final class TermsEdgesTest extends Edges {
    public static void main(String[] args) {
        noEdge("What it is", "A workshop whose plan is mended when machines break down: jobs with routes of "
                + "operations, plans by rules, breakdowns, a plan that is shifted or made anew from a moment on, "
                + "the point from which it meets the old one again, lateness by weights, due dates that are "
                + "bargained for, overtime that is bought, what-if questions, and orders that are read from a text.");
        callsInAll();
        dearestCallsInAll();
        none();
        interfaceSays();
        times();
        machines();
        jobs();
        jobsParts();
        operationsParts();
        breakdowns();
        breakdownsParts();
        hits();
        hitsAtTheLastBreakdown();
        plans();
        ends();
        fillAll();
        earliestStart();
        earliestStartRoundBreakdowns();
        choice();
        rules();
        ruleOfFewestLeft();
        latenessOfJob();
        latenessOfPlan();
        plansTakenAway();
        breakdownsKeepPlans();
        bargains();
        overtime();
        costs();
        close("TermsEdgesTest");
    }

    private static void callsInAll() {
        sentence("What it is",
                "An object is used for at most 512 calls after it has been made; what later calls answer is free.");
        RepairShop x = new RepairShop();
        for (int pair = 0; pair < 255; pair++) {
            due("call " + (2 * pair + 1), 0, x.addJob(1, 1));
            due("call " + (2 * pair + 2), 0, x.undo());
        }
        due("call 511", 0, x.addJob(1, 7));
        due("call 512", 7, x.job(0, 1));
    }

    private static void dearestCallsInAll() {
        sentence("What it is",
                "An object is used for at most 512 calls after it has been made; what later calls answer is free.");
        RepairShop x = made(full(2, 1));
        long digest = x.digest();
        // The maker has called value(), begin(), addJob() six times, addOperation() thirty times, and plan().
        int calls = 40;
        while (calls < 508) {
            due("the dearest call, " + (calls + 1), 0, x.bestOvertime(calls % 4));
            due("all are alike, " + (calls + 2), 0, x.bestRule());
            due("the digest, " + (calls + 3), digest, x.digest());
            calls += 3;
        }
        due("call 509", 30, x.value(2));
        due("call 510", 9 * (100 + 200 + 300 + 400 + 500 + 600), x.replan(0, 0));
        due("call 511", 3, x.undo());
        due("call 512, with a saved state less", digest - 1, x.digest());
    }

    private static void none() {
        sentence("Terms", "The constants: `NONE = -1`: There is no such thing.");
        due("NONE", -1, RepairShop.NONE);
    }

    private static void interfaceSays() {
        noEdge("Terms", "Ahead of the calls `begin`, `addJob`, `addOperation`, `breakDown`, `repaired`, `plan`, "
                + "`shift`, `replan`, `accept`, `bargain`, `overtime` the interface says: ---- shop.");
        noEdge("Terms", "Ahead of the calls `job`, `operation`, `breakdown`, `value`, `meeting`, `onMachine` the "
                + "interface says: ---- values.");
        noEdge("Terms", "Ahead of the calls `latenessBy`, `bestRule`, `latenessShifted`, `bestReplan`, "
                + "`bestOvertime`, `usage` the interface says: ---- what if.");
        noEdge("Terms", "Ahead of the calls `append`, `clearText`, `carryOut` the interface says: ---- text.");
        noEdge("Terms", "Ahead of the calls `undo`, `digest` the interface says: ---- state.");
    }

    private static void times() {
        noEdge("Terms", "All numbers are whole.");
        sentence("Terms", "Times begin with 0.");
        Maker planned = by(2, "j1,0;o00,1;p0;");
        RepairShop x = made(planned);
        due("a start", 0, x.operation(0, 0, PRESENT));
        due("a due date", 0, x.job(0, 1));
        due("a moment", 1, x.replan(0, 0));
        due("a breakdown's begin", 0, x.breakDown(0, 0, 1));
        refused("a due date of -1", ARGUMENT, planned, y -> y.addJob(1, -1));
        refused("a moment of -1", ARGUMENT, planned, y -> y.replan(-1, 0));
        refused("a moment of -1 to ask about", ARGUMENT, planned, y -> y.bestReplan(-1));
        refused("a begin of -1", ARGUMENT, planned, y -> y.breakDown(0, -1, 1));
    }

    private static void machines() {
        sentence("Terms, Machines", "Machines. There are 2 to 5, initially 3, numbered from 0.");
        due("initially", 3, new RepairShop().value(0));
        Maker job = by(3, "j1,0;");
        due("0 of 3", 0, made(job).addOperation(0, 0, 1));
        due("2 of 3", 0, made(job).addOperation(0, 2, 1));
        refused("3 of 3", INDEX, job, y -> y.addOperation(0, 3, 1));
        for (int machines = 2; machines <= 5; machines++) {
            int last = machines - 1;
            Maker some = by(machines, "j1,0;");
            due("there are", machines, made(some).value(0));
            due("operation on the last of " + machines, 0, made(some).addOperation(0, last, 1));
            due("breakdown of the last of " + machines, 0, made(some).breakDown(last, 0, 1));
            due("onMachine of the last of " + machines, NONE, made(some).onMachine(last, 0));
            refused("operation past " + machines, INDEX, some, y -> y.addOperation(0, last + 1, 1));
            refused("breakdown past " + machines, INDEX, some, y -> y.breakDown(last + 1, 0, 1));
            refused("onMachine past " + machines, INDEX, some, y -> y.onMachine(last + 1, 0));
            refused("operation on -1 of " + machines, INDEX, some, y -> y.addOperation(0, -1, 1));
            refused("one", ARGUMENT, some, y -> y.begin(1));
            refused("six", ARGUMENT, some, y -> y.begin(6));
        }
    }

    private static void jobs() {
        sentence("Terms, Jobs", "Jobs. There are at most 6, numbered from 0.");
        refused("0 of none", INDEX, NEW, y -> y.job(0, 0));
        RepairShop x = new RepairShop();
        for (int job = 0; job < 6; job++) {
            due("jobs", job, x.value(1));
            due("number", job, x.addJob(1 + job, 0));
            due("by its number", 1 + job, x.job(job, 0));
        }
        Maker six = by(3, "j1,0;j1,0;j1,0;j1,0;j1,0;j1,0;");
        refused("a seventh", STATE, six, y -> y.addJob(1, 0));
        refused("number 6 of 6", INDEX, six, y -> y.job(6, 0));
        refused("number -1", INDEX, six, y -> y.job(-1, 0));
    }

    private static void jobsParts() {
        sentence("Terms, Jobs", "A job has a weight, 1 to 9, a due date, 0 to 999, and at most 5 operations, "
                + "numbered from 0, that are done in this order.");
        RepairShop x = new RepairShop();
        x.addJob(1, 999);
        x.addJob(9, 0);
        due("weight and due date of job 0", "1 999", x.job(0, 0) + " " + x.job(0, 1));
        due("weight and due date of job 1", "9 0", x.job(1, 0) + " " + x.job(1, 1));
        refused("weight 0", ARGUMENT, NEW, y -> y.addJob(0, 0));
        refused("weight 10", ARGUMENT, NEW, y -> y.addJob(10, 0));
        refused("due -1", ARGUMENT, NEW, y -> y.addJob(1, -1));
        refused("due 1000", ARGUMENT, NEW, y -> y.addJob(1, 1000));
        due("no operations", 0, x.job(0, 2));
        for (int operation = 0; operation < 5; operation++) {
            due("number", operation, x.addOperation(0, 2 - operation % 3, 5 - operation));
            due("operations", operation + 1, x.job(0, 2));
        }
        x.plan(0);
        due("in this order", "0 5 9 12 14 | ", starts(x, PRESENT));
        Maker five = by(3, "j1,0;o00,1;o00,1;o00,1;o00,1;o00,1;");
        due("number 4 of 5", 1, made(five).operation(0, 4, 1));
        refused("a sixth", STATE, five, y -> y.addOperation(0, 0, 1));
        refused("number 5 of 5", INDEX, five, y -> y.operation(0, 5, 0));
        refused("number -1", INDEX, five, y -> y.operation(0, -1, 0));
    }

    private static void operationsParts() {
        sentence("Terms, Jobs", "An operation has a machine and a duration, 1 to 20.");
        Maker job = by(2, "j1,0;");
        RepairShop x = made(job);
        x.addOperation(0, 1, 1);
        x.addOperation(0, 0, 20);
        due("machine and duration", "1 1", x.operation(0, 0, 0) + " " + x.operation(0, 0, 1));
        due("machine and duration", "0 20", x.operation(0, 1, 0) + " " + x.operation(0, 1, 1));
        refused("duration 0", ARGUMENT, job, y -> y.addOperation(0, 0, 0));
        refused("duration 21", ARGUMENT, job, y -> y.addOperation(0, 0, 21));
    }

    private static void breakdowns() {
        sentence("Terms, Breakdowns", "Breakdowns. There are at most 6, numbered from 0.");
        refused("0 of none", INDEX, NEW, y -> y.breakdown(0, 0));
        RepairShop x = new RepairShop();
        for (int breakdown = 0; breakdown < 6; breakdown++) {
            due("breakdowns", breakdown, x.value(3));
            due("number", breakdown, x.breakDown(0, 10 * breakdown, 1));
            due("by its number", 10 * breakdown, x.breakdown(breakdown, 1));
        }
        refused("a seventh", STATE, broken(6), y -> y.breakDown(0, 0, 1));
        refused("number 6 of 6", INDEX, broken(6), y -> y.breakdown(6, 0));
        refused("number -1", INDEX, broken(6), y -> y.breakdown(-1, 0));
    }

    private static void breakdownsParts() {
        sentence("Terms, Breakdowns", "A breakdown has a machine, a begin, 0 to 500, and a length, 1 to 50.");
        RepairShop x = new RepairShop();
        x.breakDown(2, 0, 50);
        x.breakDown(0, 500, 1);
        due("of machine 2", "2 0 50", x.breakdown(0, 0) + " " + x.breakdown(0, 1) + " " + x.breakdown(0, 2));
        due("of machine 0", "0 500 1", x.breakdown(1, 0) + " " + x.breakdown(1, 1) + " " + x.breakdown(1, 2));
        refused("begin -1", ARGUMENT, NEW, y -> y.breakDown(0, -1, 1));
        refused("begin 501", ARGUMENT, NEW, y -> y.breakDown(0, 501, 1));
        refused("length 0", ARGUMENT, NEW, y -> y.breakDown(0, 0, 0));
        refused("length 51", ARGUMENT, NEW, y -> y.breakDown(0, 0, 51));
    }

    /** An operation on machine 0 from 5 to 8. */
    private static int hitOf(int machine, int begin, int length) {
        RepairShop x = shop(2, "j1,999;o01,5;o00,3;p0;");
        x.breakDown(machine, begin, length);
        return x.operation(0, 1, 4);
    }

    private static void hits() {
        sentence("Terms, Breakdowns", "An operation hits a breakdown of its machine if it would begin before the "
                + "end of the breakdown, which is begin + length, and end after its begin.");
        due("ends at its begin", 0, hitOf(0, 8, 1));
        due("ends 1 after its begin", 1, hitOf(0, 7, 1));
        due("begins at its end", 0, hitOf(0, 4, 1));
        due("begins 1 before its end", 1, hitOf(0, 4, 2));
        due("begins at its end, a long one", 0, hitOf(0, 0, 5));
        due("begins 1 before its end, a long one", 1, hitOf(0, 0, 6));
        due("a breakdown inside it", 1, hitOf(0, 6, 1));
        due("it is inside the breakdown", 1, hitOf(0, 0, 50));
        due("they are the same", 1, hitOf(0, 5, 3));
        due("of another machine", 0, hitOf(1, 5, 3));
    }

    private static void hitsAtTheLastBreakdown() {
        sentence("Terms, Breakdowns", "An operation hits a breakdown of its machine if it would begin before the "
                + "end of the breakdown, which is begin + length, and end after its begin.");
        for (int moment : new int[] {548, 549, 550, 551}) {
            RepairShop x = shop(2, "j1,0;o00,1;p0;d0,0,1;");
            x.replan(moment, 0);
            x.repaired();
            x.breakDown(0, 500, 50);
            due("the last time of the last one is 549, from " + moment, moment < 550 ? 1 : 0, x.value(9));
        }
    }

    private static void plans() {
        sentence("Terms, Plans",
                "Plans. A plan tells the start of each operation. There is an old plan and a present one; both can "
                        + "be missing.");
        RepairShop x = shop(2, "j1,0;o00,4;o01,3;j1,0;");
        due("no plan", 0, x.value(4));
        due("old plan is missing", "-1 -1 | ", starts(x, OLD));
        due("present plan is missing", "-1 -1 | ", starts(x, PRESENT));
        x.plan(0);
        due("there is one", 1, x.value(4));
        due("old plan", "0 4 | ", starts(x, OLD));
        due("present plan", "0 4 | ", starts(x, PRESENT));
    }

    private static void ends() {
        sentence("Terms, Plans", "The end of an operation is its start + its duration.");
        due("of the shortest", 1, shop(2, "j1,0;o00,1;p0;").job(0, 4));
        due("of the longest", 20, shop(2, "j1,0;o00,20;p0;").job(0, 4));
        due("with a start", 25, shop(2, "j1,0;o01,5;o00,20;p0;").job(0, 4));
    }

    private static void fillAll() {
        sentence("Terms", "To fill a plan with a rule from a moment on means: some operations have a start already, "
                + "the others have none. As long as there are jobs with an operation without a start, for each such "
                + "job its first one is looked at.");
        RepairShop x = new RepairShop();
        due("no jobs", 0, x.plan(0));
        due("a plan all the same", 1, x.value(4));
        x = shop(2, "j1,0;j1,0;o10,3;o11,2;j1,0;p0;");
        due("jobs without operations", " | 0 3 | ", starts(x, PRESENT));
        x = made(full(3, 2));
        due("all thirty", "0 20 40 60 80 | 100 120 140 160 180 | 200 220 240 260 280 | 300 320 340 360 380 | 400 "
                + "420 440 460 480 | 500 520 540 560 580", starts(x, PRESENT));
        x = shop(2, "j1,0;o00,5;o01,1;j1,0;o10,3;p1;");
        x.replan(5, 0);
        due("some have a start already", "0 5 | 5", starts(x, PRESENT));
    }

    private static void earliestStart() {
        sentence("Terms", "Its earliest start is the least time that is at least the moment, at least the end of "
                + "the operation before it in its job (if there is one), at least the greatest end of all "
                + "operations on its machine that have a start already, and with which it hits no breakdown.");
        for (int moment : new int[] {1, 2, 500, 999}) {
            RepairShop x = shop(2, "j1,0;o00,3;p0;d0,0,1;");
            x.replan(moment, 0);
            due("the moment", "" + moment, starts(x, PRESENT));
        }
        due("the one before", "0 5", starts(shop(2, "j1,0;o01,5;o00,3;p0;"), PRESENT));
        due("none before", "0", starts(shop(2, "j1,0;o00,3;p0;"), PRESENT));
        due("on its machine", "0 | 5", starts(shop(2, "j1,0;o00,5;j1,1;o10,5;p1;"), PRESENT));
        due("on another machine", "0 | 0", starts(shop(2, "j1,0;o00,5;j1,1;o11,5;p1;"), PRESENT));
        // 0-1 waits for 0-0 until 9, and on machine 1 for 1-1 until 10.
        due("the greatest end", "0 10 | 0 3",
                starts(shop(2, "j1,9;o00,9;o01,1;j1,9;o11,3;o11,7;p0;"), PRESENT));
        RepairShop x = shop(2, "j1,0;o00,20;j1,9;o11,5;o10,1;p1;");
        x.breakDown(1, 0, 1);
        x.replan(2, 0);
        due("the end of one that began before the moment", "0 | 2 20", starts(x, PRESENT));
    }

    private static void earliestStartRoundBreakdowns() {
        sentence("Terms", "Its earliest start is the least time that is at least the moment, at least the end of "
                + "the operation before it in its job (if there is one), at least the greatest end of all "
                + "operations on its machine that have a start already, and with which it hits no breakdown.");
        String[][] cases = {
            {"o00,3;d0,3,2;p0;", "0", "fits ahead of it"},
            {"o00,3;d0,2,2;p0;", "4", "1 too long to fit ahead of it"},
            {"o00,3;d0,0,1;p0;", "1", "behind it"},
            {"o00,3;d0,0,2;d0,5,2;p0;", "2", "fits between"},
            {"o00,3;d0,0,2;d0,4,2;p0;", "6", "1 too long to fit between"},
            {"o00,3;d0,4,2;d0,0,2;p0;", "6", "the later one first"},
            {"o00,1;d0,0,2;d0,2,2;d0,4,2;p0;", "6", "one right behind the other"},
            {"o00,3;d0,0,1;d0,3,1;d0,6,1;d0,9,1;d0,12,1;d0,15,1;p0;", "16", "behind all six"},
            {"o00,3;d0,15,1;d0,12,1;d0,9,1;d0,6,1;d0,3,1;d0,0,1;p0;", "16", "behind all six, the latest first"},
            {"o00,2;d0,15,1;d0,12,1;d0,9,1;d0,6,1;d0,3,1;d0,0,1;p0;", "1", "short enough to fit behind the first"},
            {"o00,20;d0,0,50;d0,1,49;d0,2,47;p0;", "50", "some over one another"},
            {"o00,3;d1,0,50;p0;", "0", "of another machine"},
        };
        for (String[] one : cases) {
            due(one[2], one[1], starts(shop(2, "j1,0;" + one[0]), PRESENT));
        }
        for (int duration = 1; duration <= 2; duration++) {
            RepairShop x = shop(2, "j1,0;o00," + duration + ";p0;d0,0,1;d0,500,50;");
            x.replan(499, 0);
            due("the latest breakdown, duration " + duration, duration == 1 ? "499" : "550", starts(x, PRESENT));
        }
    }

    private static void choice() {
        sentence("Terms", "Of these operations, the one with the least earliest start gets it; of several, the one "
                + "that comes first by the rule; of several, that of the lowest job.");
        due("earlier by 1, though the longest", "0 | 0 20",
                starts(shop(2, "j1,0;o00,20;j1,0;o11,1;o10,1;p0;"), PRESENT));
        due("equally early: by the rule", "1 | 0", starts(shop(2, "j1,0;o00,2;j1,0;o10,1;p0;"), PRESENT));
        due("equally early later on: by the rule", "0 6 | 0 5",
                starts(shop(2, "j1,0;o01,5;o01,2;j1,0;o10,5;o11,1;p0;"), PRESENT));
        for (int rule = 0; rule <= 3; rule++) {
            String orders = "j5,5;o00,1;j5,5;o10,1;j5,5;o20,1;j5,5;o30,1;j5,5;o40,1;j5,5;o50,1;p" + rule + ";";
            due("equal by rule " + rule + ": the lowest job", "0 | 1 | 2 | 3 | 4 | "
                    + "5", starts(shop(2, orders), PRESENT));
        }
    }

    private static void rules() {
        sentence("Terms, Rules", "Rules. 0 the shortest duration first; 1 the earliest due date first; 2 the "
                + "greatest weight first; 3 the job with the fewest operations left without a start first.");
        // The second job comes first by the one rule alone, and by the least difference.
        String[][] cases = {
            {"j5,5;o00,2;j5,5;o10,1;", "1 | 0", "0 | 2", "0 | 2", "0 | 2"},
            {"j5,5;o00,20;j5,5;o10,19;", "19 | 0", "0 | 20", "0 | 20", "0 | 20"},
            {"j5,1;o00,5;j5,0;o10,5;", "0 | 5", "5 | 0", "0 | 5", "0 | 5"},
            {"j5,999;o00,5;j5,998;o10,5;", "0 | 5", "5 | 0", "0 | 5", "0 | 5"},
            {"j1,5;o00,5;j2,5;o10,5;", "0 | 5", "0 | 5", "5 | 0", "0 | 5"},
            {"j8,5;o00,5;j9,5;o10,5;", "0 | 5", "0 | 5", "5 | 0", "0 | 5"},
            {"j5,5;o00,5;o01,1;j5,5;o10,5;", "0 5 | 5", "0 5 | 5", "0 5 | 5", "5 10 | 0"},
        };
        for (String[] one : cases) {
            for (int rule = 0; rule <= 3; rule++) {
                due("rule " + rule + ", " + one[0], one[1 + rule], starts(shop(2, one[0] + "p" + rule + ";"), PRESENT));
            }
        }
        refused("rule -1", ARGUMENT, NEW, y -> y.plan(-1));
        refused("rule 4", ARGUMENT, NEW, y -> y.plan(4));
    }

    private static void ruleOfFewestLeft() {
        sentence("Terms, Rules", "Rules. 0 the shortest duration first; 1 the earliest due date first; 2 the "
                + "greatest weight first; 3 the job with the fewest operations left without a start first.");
        String five = "j1,0;o00,1;o00,1;o00,1;o00,1;o00,1;";
        due("five and four", "4 5 6 7 8 | 0 1 2 3",
                starts(shop(2, five + "j1,1;o10,1;o10,1;o10,1;o10,1;p3;"), PRESENT));
        due("five and five", "0 1 2 3 4 | 5 6 7 8 9",
                starts(shop(2, five + "j1,1;o10,1;o10,1;o10,1;o10,1;o10,1;p3;"), PRESENT));
        RepairShop x = shop(2, five + "j1,1;o10,1;o10,1;p1;");
        x.replan(3, 3);
        due("two left of five and two of two", "0 1 2 3 4 | 5 6", starts(x, PRESENT));
        x = shop(2, five + "j1,1;o10,1;o10,1;p1;");
        x.replan(2, 3);
        due("three left of five and two of two", "0 1 4 5 6 | 2 3", starts(x, PRESENT));
    }

    private static void latenessOfJob() {
        sentence("Terms", "The lateness of a job in a plan is the end of its last operation minus its due date, but "
                + "not less than 0 (0 for a job without operations).");
        int[][] cases = {{0, 9}, {8, 1}, {9, 0}, {10, 0}, {999, 0}};
        for (int[] one : cases) {
            RepairShop x = shop(2, "j9," + one[0] + ";o00,4;o01,5;p0;");
            due("ends at 9, due at " + one[0], one[1], x.job(0, 5));
        }
        due("without operations", 0, shop(2, "j9,0;p0;").job(0, 5));
    }

    private static void latenessOfPlan() {
        sentence("Terms", "The lateness of a plan is the sum, over all jobs, of weight * lateness.");
        due("no jobs", 0, new RepairShop().plan(0));
        due("one job", 9 * 3, shop(2, "j9,2;o00,5;").plan(0));
        due("a job that is early takes nothing off", 9 * 3, shop(2, "j9,2;o00,5;j9,999;o11,5;").plan(0));
        due("six jobs", 1 + 2 * 2 + 3 * 3 + 4 * 4 + 5 * 5 + 6 * 6,
                shop(2, "j1,0;o00,1;j2,0;o10,1;j3,0;o20,1;j4,0;o30,1;j5,0;o40,1;j6,0;o50,1;").plan(0));
    }

    private static void plansTakenAway() {
        sentence("Terms", "Adding a job or an operation, changing a duration, and another number of machines take "
                + "both plans away.");
        Maker planned = by(3, "j1,0;o00,4;d0,0,1;p0;");
        Checks.Call[] calls = {y -> y.addJob(1, 1), y -> y.addOperation(0, 1, 1), y -> y.overtime(0, 0),
            y -> carryOut(y, "j1,1;"), y -> carryOut(y, "o01,1;")};
        for (int call = 0; call < calls.length; call++) {
            RepairShop x = made(planned);
            due("before call " + call, "1 1 1", x.operation(0, 0, OLD) + " " + x.operation(0, 0, PRESENT) + " "
                    + "" + x.value(4));
            calls[call].on(x);
            due("after call " + call, "-1 -1 0", x.operation(0, 0, OLD) + " " + x.operation(0, 0, PRESENT) + " "
                    + "" + x.value(4));
            due("after call " + call, "-1 -1 -1 -1", x.value(6) + " " + x.value(7) + " " + x.value(8) + " "
                    + "" + x.value(9));
            due("shift after call " + call, "throws IllegalStateException", outcome(x, y -> y.shift()));
        }
        for (int machines = 2; machines <= 5; machines++) {
            RepairShop x = made(planned);
            x.begin(machines);
            due(machines + " machines", 0, x.value(4));
        }
    }

    private static void breakdownsKeepPlans() {
        sentence("Terms", "Breakdowns do not change plans.");
        RepairShop x = shop(2, "j1,0;o00,5;j2,9;o10,3;p0;");
        x.replan(0, 2);
        x.replan(0, 1);
        due("old", "3 | 0", starts(x, OLD));
        due("present", "0 | 5", starts(x, PRESENT));
        for (int breakdown = 0; breakdown < 6; breakdown++) {
            x.breakDown(0, breakdown, 50);
            due("old", "3 | 0", starts(x, OLD));
            due("present", "0 | 5", starts(x, PRESENT));
        }
        x.repaired();
        carryOut(x, "d0,0,50;");
        due("old, as an order", "3 | 0", starts(x, OLD));
        due("present, as an order", "0 | 5", starts(x, PRESENT));
        for (int breakdown = 6; breakdown > 0; breakdown--) {
            x.repaired();
            due("old, repaired", "3 | 0", starts(x, OLD));
            due("present, repaired", "0 | 5", starts(x, PRESENT));
        }
    }

    private static void bargains() {
        sentence("Terms, Costs", "Costs. A bargain moves the due date of a job by some units later; it costs the "
                + "weight of the job for each unit.");
        int[][] cases = {{1, 1}, {1, 99}, {9, 1}, {9, 99}};
        for (int[] one : cases) {
            RepairShop x = new RepairShop();
            x.addJob(one[0], 900);
            due("later", 900 + one[1], x.bargain(0, one[1]));
            due("weight " + one[0] + ", units " + one[1], one[0] * one[1], x.value(5));
        }
    }

    private static void overtime() {
        sentence("Terms, Costs", "Overtime makes the duration of an operation shorter by 1; it costs 3.");
        RepairShop x = shop(2, "j9,0;o00,20;o00,2;");
        due("from 20", 19, x.overtime(0, 0));
        due("costs", 3, x.value(5));
        due("from 2", 1, x.overtime(0, 1));
        due("costs", 6, x.value(5));
        due("the other one", 19, x.operation(0, 0, 1));
    }

    private static void costs() {
        sentence("Terms, Costs", "All costs are added up.");
        RepairShop x = shop(2, "j9,0;o00,20;j2,0;o11,9;");
        due("none", 0, x.value(5));
        x.bargain(0, 10);
        due("one", 90, x.value(5));
        x.bargain(1, 5);
        due("two", 100, x.value(5));
        for (int bought = 1; bought <= 19; bought++) {
            x.overtime(0, 0);
            due("overtime", 100 + 3 * bought, x.value(5));
        }
        x.addJob(1, 1);
        x.plan(0);
        x.breakDown(0, 0, 1);
        due("they stay", 157, x.value(5));
        for (int bargain = 1; bargain <= 10; bargain++) {
            x.bargain(0, 98);
            due("bargains", 157 + 9 * 98 * bargain, x.value(5));
        }
    }
}
