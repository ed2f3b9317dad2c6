/** The edges that promises 13 to 18 name. */
public final class ValuesEdgesTest extends Edges {
    /** Starts 0 and 4; it ends at 7, late by 2. */
    private static final Maker ONE = by(2, "j3,5;o00,4;o01,3;p0;");
    private static final Maker NO_PLAN = by(2, "j3,5;o00,4;o01,3;");
    /** Two jobs, the second one without operations. */
    private static final Maker IDLE = by(2, "j3,5;o00,4;j2,0;p0;");
    /** On one machine; starts 0, 5 and 9 by rule 1, of which rule 0 makes 7, 3 and 0. */
    private static final Maker THREE = by(2, "j1,0;o00,5;j1,1;o10,4;j1,2;o20,3;p1;");

    public static void main(String[] args) {
        job();
        jobNumbers();
        jobWhat();
        jobReturns();
        jobThrowsIndex();
        jobThrowsArgument();
        operation();
        operationJob();
        operationNumbers();
        operationWhat();
        operationReturns();
        operationThrowsIndex();
        operationThrowsArgument();
        breakdown();
        breakdownNumbers();
        breakdownWhat();
        breakdownReturns();
        breakdownThrowsIndex();
        breakdownThrowsArgument();
        value();
        valueWhat();
        valueOfFullShop();
        valueReturns();
        valueThrows();
        meeting();
        meetingReturns();
        onMachine();
        onMachineNumbers();
        onMachinePlace();
        onMachineReturns();
        onMachineThrows();
        close("ValuesEdgesTest");
    }

    private static String job(RepairShop x, int job) {
        StringBuilder all = new StringBuilder();
        for (int what = 0; what <= 5; what++) {
            all.append(what == 0 ? "" : " ").append(x.job(job, what));
        }
        return all.toString();
    }

    private static String operation(RepairShop x, int job, int operation) {
        StringBuilder all = new StringBuilder();
        for (int what = 0; what <= 4; what++) {
            all.append(what == 0 ? "" : " ").append(x.operation(job, operation, what));
        }
        return all.toString();
    }

    private static String breakdown(RepairShop x, int breakdown) {
        return x.breakdown(breakdown, 0) + " " + x.breakdown(breakdown, 1) + " " + x.breakdown(breakdown, 2);
    }

    private static void job() {
        noEdge("Promise 13", "Returns something about a job.");
    }

    private static void jobNumbers() {
        sentence("Promise 13", "- `job`: number of a job");
        Maker six = by(2, "j1,0;j2,0;j3,0;j4,0;j5,0;j6,0;");
        refused("-1", INDEX, six, y -> y.job(-1, 0));
        for (int job = 0; job < 6; job++) {
            due("job " + job, 1 + job, made(six).job(job, 0));
        }
        refused("6 of six", INDEX, six, y -> y.job(6, 0));
    }

    private static void jobWhat() {
        sentence("Promise 13", "- `what`: 0 its weight, 1 its due date, 2 its operations, 3 the sum of their "
                + "durations, 4 the end of its last operation in the present plan, 5 its lateness in the present plan");
        due("two operations", "3 5 2 7 7 2", job(made(ONE), 0));
        due("the lightest, due at once", "1 0 1 1 1 1", job(shop(2, "j1,0;o00,1;p0;"), 0));
        due("the heaviest, due at last", "9 999 1 20 20 0", job(shop(2, "j9,999;o00,20;p0;"), 0));
        due("without operations", "9 999 0 0 -1 0", job(shop(2, "j9,999;p0;"), 0));
        due("all that there is room for", "9 0 5 100 600 600", job(made(full(2, 0)), 5));
        RepairShop x = made(ONE.and(y -> y.breakDown(0, 0, 1)));
        due("ahead of the shift", "3 5 2 7 7 2", job(x, 0));
        x.shift();
        due("by the present plan", "3 5 2 7 8 3", job(x, 0));
        x.bargain(0, 3);
        due("just in time", "3 8 2 7 8 0", job(x, 0));
        x.bargain(0, 1);
        due("before its time", "3 9 2 7 8 0", job(x, 0));
    }

    private static void jobReturns() {
        sentence("Promise 13", "Returns that value; NONE for what = 4 and 5 without a plan, and for what = 4 "
                + "without operations.");
        due("without a plan", "3 5 2 7 -1 -1", job(made(NO_PLAN), 0));
        due("with a plan", "3 5 2 7 7 2", job(made(ONE), 0));
        due("with a plan without operations", "2 0 0 0 -1 0", job(made(IDLE), 1));
        due("without a plan and operations", "2 0 0 0 -1 -1", job(made(IDLE.and(x -> x.addJob(1, 1))), 1));
        RepairShop x = made(ONE);
        x.overtime(0, 0);
        due("the plan is gone", "3 5 2 6 -1 -1", job(x, 0));
    }

    private static void jobThrowsIndex() {
        sentence("Promise 13", "Throws `IndexOutOfBoundsException` if there is no such job");
        refused("0 of none", INDEX, NEW, y -> y.job(0, 0));
        for (int job : new int[] {LEAST, -1, 1, 2, 5, 6, MOST}) {
            refused("job " + job, INDEX, ONE, y -> y.job(job, 0));
            refused("what, too, job " + job, INDEX, ONE, y -> y.job(job, 6));
            refused("what of -1, too, job " + job, INDEX, ONE, y -> y.job(job, -1));
        }
    }

    private static void jobThrowsArgument() {
        sentence("Promise 13", "Throws `IllegalArgumentException` if what is out of range");
        for (int what : new int[] {LEAST, -2, -1, 6, 7, MOST}) {
            refused("what " + what, ARGUMENT, ONE, y -> y.job(0, what));
            refused("without a plan, what " + what, ARGUMENT, NO_PLAN, y -> y.job(0, what));
        }
    }

    private static void operation() {
        noEdge("Promise 14", "Returns something about an operation.");
    }

    private static void operationJob() {
        sentence("Promise 14", "- `job`: number of a job");
        refused("-1", INDEX, full(2, 0), y -> y.operation(-1, 0, 0));
        for (int job = 0; job < 6; job++) {
            due("job " + job, 100 * job, made(full(2, 0)).operation(job, 0, 3));
        }
        refused("6 of six", INDEX, full(2, 0), y -> y.operation(6, 0, 0));
    }

    private static void operationNumbers() {
        sentence("Promise 14", "- `operation`: number of an operation of it");
        refused("-1", INDEX, full(2, 0), y -> y.operation(1, -1, 0));
        for (int operation = 0; operation < 5; operation++) {
            due("operation " + operation, 100 + 20 * operation, made(full(2, 0)).operation(1, operation, 3));
        }
        refused("5 of five", INDEX, full(2, 0), y -> y.operation(1, 5, 0));
    }

    private static void operationWhat() {
        sentence("Promise 14", "- `what`: 0 its machine, 1 its duration, 2 its start in the old plan, 3 its start "
                + "in the present plan, 4 1 if it hits a breakdown with its start in the present plan, otherwise 0");
        RepairShop x = made(ONE);
        due("planned", "1 3 4 4 0", operation(x, 0, 1));
        x.breakDown(1, 7, 1);
        due("it ends at a breakdown's begin", "1 3 4 4 0", operation(x, 0, 1));
        x.breakDown(1, 6, 1);
        due("it ends 1 after it", "1 3 4 4 1", operation(x, 0, 1));
        x.shift();
        due("shifted", "1 3 4 8 0", operation(x, 0, 1));
        x.breakDown(1, 4, 1);
        due("a hit by the old plan's start alone", "1 3 4 8 0", operation(x, 0, 1));
        due("the first machine, the first time", "0 4 0 0 0", operation(x, 0, 0));
        due("the last machine, the longest", "4 20 0 0 0", operation(shop(5, "j1,0;o04,20;p0;"), 0, 0));
        due("the last of all", "4 20 580 580 0", operation(made(full(5, 4)), 5, 4));
    }

    private static void operationReturns() {
        sentence("Promise 14", "Returns that value; NONE for what = 2 to 4 without a plan.");
        due("without a plan", "1 3 -1 -1 -1", operation(made(NO_PLAN), 0, 1));
        due("with a plan", "1 3 4 4 0", operation(made(ONE), 0, 1));
        RepairShop x = made(ONE.and(y -> y.breakDown(0, 0, 1)));
        due("a hit", "0 4 0 0 1", operation(x, 0, 0));
        x.addJob(1, 1);
        due("a hit, but the plan is gone", "0 4 -1 -1 -1", operation(x, 0, 0));
    }

    private static void operationThrowsIndex() {
        sentence("Promise 14", "Throws `IndexOutOfBoundsException` if there is no such job or operation");
        refused("0 of none", INDEX, NEW, y -> y.operation(0, 0, 0));
        refused("without operations", INDEX, IDLE, y -> y.operation(1, 0, 0));
        for (int job : new int[] {LEAST, -1, 2, 5, 6, MOST}) {
            refused("job " + job, INDEX, IDLE, y -> y.operation(job, 0, 0));
            refused("what, too, job " + job, INDEX, IDLE, y -> y.operation(job, 0, 5));
        }
        for (int operation : new int[] {LEAST, -1, 2, 4, 5, MOST}) {
            refused("operation " + operation, INDEX, ONE, y -> y.operation(0, operation, 0));
            refused("what, too, operation " + operation, INDEX, ONE, y -> y.operation(0, operation, -1));
        }
        refused("operation 5 of job 0 is not 0 of job 1", INDEX, full(2, 0), y -> y.operation(0, 5, 0));
        refused("operation -1 of job 1 is not 4 of job 0", INDEX, full(2, 0), y -> y.operation(1, -1, 0));
    }

    private static void operationThrowsArgument() {
        sentence("Promise 14", "Throws `IllegalArgumentException` if what is out of range");
        for (int what : new int[] {LEAST, -2, -1, 5, 6, MOST}) {
            refused("what " + what, ARGUMENT, ONE, y -> y.operation(0, 1, what));
            refused("without a plan, what " + what, ARGUMENT, NO_PLAN, y -> y.operation(0, 1, what));
        }
    }

    private static void breakdown() {
        noEdge("Promise 15", "Returns something about a breakdown.");
    }

    private static void breakdownNumbers() {
        sentence("Promise 15", "- `breakdown`: number of a breakdown");
        refused("-1", INDEX, broken(6), y -> y.breakdown(-1, 0));
        for (int breakdown = 0; breakdown < 6; breakdown++) {
            due("breakdown " + breakdown, 490 + breakdown, made(broken(6)).breakdown(breakdown, 1));
        }
        refused("6 of six", INDEX, broken(6), y -> y.breakdown(6, 0));
    }

    private static void breakdownWhat() {
        sentence("Promise 15", "- `what`: 0 its machine, 1 its begin, 2 its length");
        RepairShop x = shop(5, "d0,0,1;d4,500,50;d3,7,9;");
        due("the least of all", "0 0 1", breakdown(x, 0));
        due("the most of all", "4 500 50", breakdown(x, 1));
        due("another one", "3 7 9", breakdown(x, 2));
    }

    private static void breakdownReturns() {
        sentence("Promise 15", "Returns that value.");
        RepairShop x = made(broken(6));
        for (int breakdown = 0; breakdown < 6; breakdown++) {
            due("breakdown " + breakdown, "0 " + (490 + breakdown) + " 1", breakdown(x, breakdown));
        }
    }

    private static void breakdownThrowsIndex() {
        sentence("Promise 15", "Throws `IndexOutOfBoundsException` if there is no such breakdown");
        refused("0 of none", INDEX, NEW, y -> y.breakdown(0, 0));
        refused("one that is repaired", INDEX, broken(3).and(x -> x.repaired()), y -> y.breakdown(2, 0));
        refused("one from before begin", INDEX, broken(3).and(x -> x.begin(3)), y -> y.breakdown(0, 0));
        for (int breakdown : new int[] {LEAST, -1, 1, 2, 5, 6, MOST}) {
            refused("breakdown " + breakdown, INDEX, broken(1), y -> y.breakdown(breakdown, 0));
            refused("what, too, breakdown " + breakdown, INDEX, broken(1), y -> y.breakdown(breakdown, 3));
            refused("what of -1, too, breakdown " + breakdown, INDEX, broken(1), y -> y.breakdown(breakdown, -1));
        }
    }

    private static void breakdownThrowsArgument() {
        sentence("Promise 15", "Throws `IllegalArgumentException` if what is out of range");
        for (int what : new int[] {LEAST, -2, -1, 3, 4, MOST}) {
            refused("what " + what, ARGUMENT, broken(1), y -> y.breakdown(0, what));
        }
    }

    private static void value() {
        noEdge("Promise 16", "Returns a number.");
    }

    private static void valueWhat() {
        sentence("Promise 16", "- `what`: 0 the machines, 1 the jobs, 2 all operations, 3 the breakdowns, 4 1 if "
                + "there is a plan, otherwise 0, 5 the costs, 6 the lateness of the old plan, 7 that of the present "
                + "plan, 8 the greatest end in the present plan (0 without operations), 9 the operations that hit a "
                + "breakdown in the present plan");
        due("a new object", "3 0 0 0 0 0 -1 -1 -1 -1", values(new RepairShop()));
        due("a plan alone", "3 0 0 0 1 0 0 0 0 0", values(made(x -> x.plan(0))));
        due("a plan of a job without operations", "3 1 0 0 1 0 0 0 0 0", values(shop(3, "j9,0;p0;")));
        RepairShop x = made(THREE);
        due("three operations", "2 3 3 0 1 0 23 23 12 0", values(x));
        x.breakDown(0, 4, 1);
        due("one is hit", "2 3 3 1 1 0 23 23 12 1", values(x));
        x.breakDown(0, 4, 2);
        due("two are hit, one of them by two breakdowns", "2 3 3 2 1 0 23 23 12 2", values(x));
        x.breakDown(0, 0, 12);
        due("all are hit", "2 3 3 3 1 0 23 23 12 3", values(x));
        x.shift();
        due("shifted by 12", "2 3 3 3 1 0 23 59 24 0", values(x));
        x.breakDown(0, 11, 1);
        due("hit in the old plan alone", "2 3 3 4 1 0 23 59 24 0", values(x));
        x.bargain(2, 8);
        due("bargained to just in time in the old plan", "2 3 3 4 1 8 15 51 24 0", values(x));
    }

    private static void valueOfFullShop() {
        sentence("Promise 16", "- `what`: 0 the machines, 1 the jobs, 2 all operations, 3 the breakdowns, 4 1 if "
                + "there is a plan, otherwise 0, 5 the costs, 6 the lateness of the old plan, 7 that of the present "
                + "plan, 8 the greatest end in the present plan (0 without operations), 9 the operations that hit a "
                + "breakdown in the present plan");
        RepairShop x = made(full(5, 4));
        for (int breakdown = 0; breakdown < 6; breakdown++) {
            x.breakDown(4, breakdown == 0 ? 1 : 100 * breakdown - 1, 50);
        }
        // The first breakdown touches 3 operations, each of the others 4.
        due("all that there is room for", "5 6 30 6 1 0 18900 18900 600 23", values(x));
        x = made(UNEVEN.and(y -> y.breakDown(0, 5, 1)));
        due("the last operation alone is hit", "2 2 6 1 1 0 6 6 6 1", values(x));
        x = shop(2, "j1,0;j1,0;o10,3;j1,0;o21,9;o20,1;j1,0;p0;");
        due("the greatest end is not that of the last job", "2 4 3 0 1 0 13 13 10 0", values(x));
    }

    private static void valueReturns() {
        sentence("Promise 16", "Returns that number; NONE for what = 6 to 9 without a plan.");
        due("without a plan", "2 1 2 0 0 0 -1 -1 -1 -1", values(made(NO_PLAN)));
        due("with a plan", "2 1 2 0 1 0 6 6 7 0", values(made(ONE)));
        RepairShop x = made(ONE.and(y -> y.breakDown(0, 0, 1)));
        due("with a hit", "2 1 2 1 1 0 6 6 7 1", values(x));
        x.overtime(0, 0);
        due("the plan is gone", "2 1 2 1 0 3 -1 -1 -1 -1", values(x));
    }

    private static void valueThrows() {
        sentence("Promise 16", "Throws `IllegalArgumentException` if what is out of range");
        for (int what : new int[] {LEAST, -2, -1, 10, 11, MOST}) {
            refused("value(" + what + ")", ARGUMENT, ONE, y -> y.value(what));
            refused("value(" + what + ") of a new object", ARGUMENT, NEW, y -> y.value(what));
        }
    }

    private static void meeting() {
        sentence("Promise 17", "Returns the time from which the present plan meets the old one.");
        RepairShop x = made(THREE);
        x.breakDown(0, 9, 1);
        x.shift();
        due("starts", "0 | 5 | 9 0 | 5 | 10", starts(x, OLD) + " " + starts(x, PRESENT));
        due("1 after the last different start of the old plan", 10, x.meeting());
    }

    private static void meetingReturns() {
        sentence("Promise 17", "Returns the greatest start, in the old plan, of an operation whose starts in both "
                + "plans are different, plus 1; 0 if there is none; NONE without a plan.");
        due("a new object", NONE, new RepairShop().meeting());
        due("no plan", NONE, made(NO_PLAN).meeting());
        due("the plan is gone", NONE, made(ONE.and(x -> x.addJob(1, 1))).meeting());
        due("no operations", 0, made(x -> x.plan(0)).meeting());
        due("no difference", 0, made(THREE).meeting());
        RepairShop x = shop(2, "j1,0;o00,3;j1,0;o11,9;o11,1;p0;d0,0,1;");
        x.shift();
        due("a start of 0 alone", 1, x.meeting());
        x = shop(2, "j1,0;o01,1;o00,3;j1,0;o11,9;o11,1;p0;d0,1,1;");
        x.shift();
        due("a start of 1 alone", 2, x.meeting());
        x = made(UNEVEN.and(y -> y.breakDown(0, 5, 1)).and(y -> y.shift()));
        due("the last operation alone", 6, x.meeting());
        x = made(THREE.and(y -> y.replan(0, 0)));
        due("the old plan's start counts: 9, now 0", 10, x.meeting());
        x = made(full(2, 0).and(y -> y.breakDown(0, 0, 1)).and(y -> y.shift()));
        due("all that there is room for", 581, x.meeting());
        x.accept();
        due("accepted", 0, x.meeting());
        x = made(full(2, 0).and(y -> y.breakDown(0, 0, 1)).and(y -> y.replan(999, 0)));
        due("the first job of a full shop", 81, x.meeting());
    }

    private static void onMachine() {
        sentence("Promise 18", "Returns the operations that start on a machine one after the other in the present "
                + "plan.");
        RepairShop x = made(THREE);
        due("by the plan", "0 10 20", x.onMachine(0, 0) + " " + x.onMachine(0, 1) + " " + x.onMachine(0, 2));
        x.replan(0, 0);
        due("by the present plan", "20 10 0", x.onMachine(0, 0) + " " + x.onMachine(0, 1) + " " + x.onMachine(0, 2));
        x = made(THREE.and(y -> y.breakDown(0, 0, 20)).and(y -> y.shift()));
        due("all are shifted by 20", "0 10 20", x.onMachine(0, 0) + " " + x.onMachine(0, 1) + " " + x.onMachine(0, 2));
        x = made(UNEVEN);
        for (int place = 0; place <= 5; place++) {
            due("one of job 0, five of job 1", place == 0 ? 0 : 9 + place, x.onMachine(0, place));
        }
        x = made(full(2, 0));
        for (int place = 0; place < 30; place++) {
            due("all that there is room for", 10 * (place / 5) + place % 5, x.onMachine(0, place));
        }
        due("no more of them", NONE, x.onMachine(0, 30));
    }

    private static void onMachineNumbers() {
        sentence("Promise 18", "- `machine`: number of a machine");
        for (int machines = 2; machines <= 5; machines++) {
            int past = machines;
            Maker one = by(machines, "j1,0;o0" + (machines - 1) + ",1;p0;");
            refused("-1", INDEX, one, y -> y.onMachine(-1, 0));
            for (int machine = 0; machine < machines; machine++) {
                due(machine + " of " + machines, machine == machines - 1 ? 0 : NONE, made(one).onMachine(machine, 0));
            }
            refused(past + " of " + past, INDEX, one, y -> y.onMachine(past, 0));
        }
    }

    private static void onMachinePlace() {
        sentence("Promise 18", "- `place`: 0 for the first one, and so on");
        refused("-1", INDEX, ONE, y -> y.onMachine(0, -1));
        RepairShop x = shop(2, "j1,0;o01,1;o00,4;j1,0;o10,1;o11,2;p0;");
        due("starts", "0 1 | 0 1", starts(x, PRESENT));
        due("0 of machine 0", 10, x.onMachine(0, 0));
        due("1 of machine 0", 1, x.onMachine(0, 1));
        due("2 of machine 0", NONE, x.onMachine(0, 2));
        due("0 of machine 1", 0, x.onMachine(1, 0));
        due("1 of machine 1", 11, x.onMachine(1, 1));
    }

    private static void onMachineReturns() {
        sentence("Promise 18", "Returns 10 * job + operation; NONE if there are not so many, or no plan.");
        due("no plan", NONE, made(NO_PLAN).onMachine(0, 0));
        due("no plan, the greatest place", NONE, made(NO_PLAN).onMachine(0, MOST));
        due("the plan is gone", NONE, made(ONE.and(x -> x.addJob(1, 1))).onMachine(0, 0));
        due("no operations", NONE, made(x -> x.plan(0)).onMachine(0, 0));
        due("none on this machine", NONE, made(THREE).onMachine(1, 0));
        due("the first of all", 0, made(full(2, 0)).onMachine(0, 0));
        due("the last of all", 54, made(full(2, 0)).onMachine(0, 29));
        for (int place : new int[] {30, 31, MOST}) {
            due("not so many, " + place, NONE, made(full(2, 0)).onMachine(0, place));
        }
        due("one of one", 1, made(ONE).onMachine(1, 0));
        due("two of one", NONE, made(ONE).onMachine(1, 1));
    }

    private static void onMachineThrows() {
        sentence("Promise 18", "Throws `IndexOutOfBoundsException` if there is no such machine, or place is negative");
        for (Maker maker : new Maker[] {ONE, NO_PLAN, by(2, "")}) {
            for (int machine : new int[] {LEAST, -1, 2, 3, 5, MOST}) {
                refused("machine " + machine, INDEX, maker, y -> y.onMachine(machine, 0));
                refused("both, machine " + machine, INDEX, maker, y -> y.onMachine(machine, -1));
            }
            for (int place : new int[] {LEAST, -2, -1}) {
                refused("place " + place, INDEX, maker, y -> y.onMachine(0, place));
            }
        }
    }
}
