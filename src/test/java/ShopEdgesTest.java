/** The edges that promises 1 to 6 name. */
public final class ShopEdgesTest extends Edges {
    private static final Maker JOB = by(3, "j1,0;");
    private static final Maker SIX_JOBS = by(3, "j1,0;j1,0;j1,0;j1,0;j1,0;j1,0;");
    private static final Maker FIVE_OPERATIONS = by(3, "j1,0;o00,1;o00,1;o00,1;o00,1;o00,1;j1,0;");
    private static final Maker ALL_OF_IT = by(3, "j3,10;o02,4;d2,10,20;p0;").and(x -> x.bargain(0, 2));

    public static void main(String[] args) {
        newObject();
        begin();
        beginUndone();
        beginMachines();
        beginReturns();
        beginThrows();
        addJob();
        addJobUndone();
        addJobWeight();
        addJobDue();
        addJobReturns();
        addJobThrowsArgument();
        addJobThrowsState();
        addOperation();
        addOperationUndone();
        addOperationJob();
        addOperationMachine();
        addOperationDuration();
        addOperationReturns();
        addOperationThrowsIndex();
        addOperationThrowsArgument();
        addOperationThrowsState();
        breakDown();
        breakDownUndone();
        breakDownMachine();
        breakDownBegin();
        breakDownLength();
        breakDownReturns();
        breakDownThrowsIndex();
        breakDownThrowsArgument();
        breakDownThrowsState();
        repaired();
        repairedUndone();
        repairedReturns();
        repairedThrows();
        close("ShopEdgesTest");
    }

    private static void newObject() {
        sentence("Promise 1", "Creates a workshop of 3 machines without jobs, breakdowns and plans.");
        RepairShop x = new RepairShop();
        due("values", "3 0 0 0 0 0 -1 -1 -1 -1", values(x));
        due("meeting", NONE, x.meeting());
        due("machine 2", NONE, x.onMachine(2, 0));
        due("machine 3", "throws IndexOutOfBoundsException", outcome(x, y -> y.onMachine(3, 0)));
        due("job 0", "throws IndexOutOfBoundsException", outcome(x, y -> y.job(0, 0)));
        due("breakdown 0", "throws IndexOutOfBoundsException", outcome(x, y -> y.breakdown(0, 0)));
        due("saved states", "throws IllegalStateException", outcome(x, y -> y.undo()));
        due("text", 0, x.clearText());
    }

    private static void begin() {
        sentence("Promise 2", "Begins with other machines: there are no jobs, breakdowns and plans, and no costs.");
        for (int machines = 2; machines <= 5; machines++) {
            RepairShop x = made(ALL_OF_IT);
            due("before", "3 1 1 1 1 6 0 0 4 0", values(x));
            x.begin(machines);
            due("after begin(" + machines + ")", machines + " 0 0 0 0 0 -1 -1 -1 -1", values(x));
            x = made(full(5, 4).and(broken(6)));
            due("a full shop", "5 6 30 6 1 0 18900 18900 600 0", values(x));
            x.begin(machines);
            due("after begin(" + machines + ")", machines + " 0 0 0 0 0 -1 -1 -1 -1", values(x));
            due("room for jobs again", 0, x.addJob(1, 1));
            due("which have no operations", 0, x.job(0, 2));
            due("room for breakdowns again", 0, x.breakDown(0, 0, 1));
        }
    }

    private static void beginUndone() {
        sentence("Promise 2", "Undoable.");
        undoable("of a new object, which changes nothing", NEW, y -> y.begin(3));
        undoable("of a shop", ALL_OF_IT, y -> y.begin(2));
        undoable("of a full shop", full(5, 4).and(broken(6)), y -> y.begin(5));
    }

    private static void beginMachines() {
        sentence("Promise 2", "- `machines`: 2 to 5");
        refused("1", ARGUMENT, ALL_OF_IT, y -> y.begin(1));
        RepairShop x = made(ALL_OF_IT);
        for (int machines : new int[] {2, 3, 4, 5, 2}) {
            x.begin(machines);
            due("machines", machines, x.value(0));
        }
        refused("6", ARGUMENT, ALL_OF_IT, y -> y.begin(6));
    }

    private static void beginReturns() {
        sentence("Promise 2", "Returns the jobs that there were.");
        due("none", 0, new RepairShop().begin(2));
        due("one", 1, made(JOB).begin(2));
        due("six", 6, made(SIX_JOBS).begin(2));
        RepairShop x = made(SIX_JOBS);
        x.begin(5);
        due("none after a begin", 0, x.begin(3));
    }

    private static void beginThrows() {
        sentence("Promise 2", "Throws `IllegalArgumentException` if machines is out of range");
        for (int machines : new int[] {LEAST, -2, -1, 0, 1, 6, 7, MOST}) {
            refused("begin(" + machines + ")", ARGUMENT, ALL_OF_IT, y -> y.begin(machines));
            refused("begin(" + machines + ") of a new object", ARGUMENT, NEW, y -> y.begin(machines));
        }
    }

    private static void addJob() {
        sentence("Promise 3", "Adds a job without operations.");
        RepairShop x = made(FIVE_OPERATIONS);
        int job = x.addJob(2, 3);
        due("the last of the jobs", 2, job);
        due("jobs", 3, x.value(1));
        due("it has no operations", 0, x.job(job, 2));
        due("their sum", 0, x.job(job, 3));
        due("the others keep theirs", 5, x.value(2));
        x = new RepairShop();
        x.addJob(1, 1);
        x.addOperation(0, 0, 20);
        x.undo();
        x.undo();
        x.addJob(1, 1);
        due("it has none of a job that was undone", 0, x.job(0, 2));
        x.addOperation(0, 0, 20);
        x.begin(3);
        x.addJob(1, 1);
        due("it has none of a job from before begin", 0, x.job(0, 2));
    }

    private static void addJobUndone() {
        sentence("Promise 3", "Undoable.");
        undoable("the first", NEW, y -> y.addJob(1, 0));
        undoable("the second, which takes plans away", ALL_OF_IT, y -> y.addJob(1, 0));
        undoable("the sixth", by(3, "j1,0;j1,0;j1,0;j1,0;j1,0;"), y -> y.addJob(1, 0));
    }

    private static void addJobWeight() {
        sentence("Promise 3", "- `weight`: 1 to 9");
        refused("0", ARGUMENT, NEW, y -> y.addJob(0, 5));
        for (int weight = 1; weight <= 9; weight++) {
            RepairShop x = new RepairShop();
            x.addJob(weight, 5);
            due("weight", weight, x.job(0, 0));
        }
        refused("10", ARGUMENT, NEW, y -> y.addJob(10, 5));
    }

    private static void addJobDue() {
        sentence("Promise 3", "- `due`: 0 to 999");
        refused("-1", ARGUMENT, NEW, y -> y.addJob(5, -1));
        for (int due : new int[] {0, 1, 998, 999}) {
            RepairShop x = new RepairShop();
            x.addJob(5, due);
            due("due", due, x.job(0, 1));
        }
        refused("1000", ARGUMENT, NEW, y -> y.addJob(5, 1000));
    }

    private static void addJobReturns() {
        sentence("Promise 3", "Returns its number.");
        RepairShop x = new RepairShop();
        for (int job = 0; job < 6; job++) {
            due("number", job, x.addJob(1, job));
            due("by its number", job, x.job(job, 1));
        }
        x.undo();
        due("the sixth again", 5, x.addJob(1, 1));
        x.begin(3);
        due("the first again", 0, x.addJob(1, 1));
    }

    private static void addJobThrowsArgument() {
        sentence("Promise 3", "Throws `IllegalArgumentException` if an argument is out of range");
        for (int weight : new int[] {LEAST, -1, 0, 10, 11, MOST}) {
            refused("weight " + weight, ARGUMENT, JOB, y -> y.addJob(weight, 5));
        }
        for (int due : new int[] {LEAST, -1, 1000, 1001, MOST}) {
            refused("due " + due, ARGUMENT, JOB, y -> y.addJob(5, due));
            refused("both, due " + due, ARGUMENT, JOB, y -> y.addJob(0, due));
        }
        refused("weight 0 and no room", ARGUMENT, SIX_JOBS, y -> y.addJob(0, 5));
        refused("due 1000 and no room", ARGUMENT, SIX_JOBS, y -> y.addJob(5, 1000));
    }

    private static void addJobThrowsState() {
        sentence("Promise 3", "Throws `IllegalStateException` if there are 6 jobs");
        due("there are 5", 5, made(by(3, "j1,0;j1,0;j1,0;j1,0;j1,0;")).addJob(1, 0));
        refused("there are 6", STATE, SIX_JOBS, y -> y.addJob(1, 0));
        refused("there are 6 with a plan", STATE, SIX_JOBS.and(x -> x.plan(0)), y -> y.addJob(9, 999));
        due("6 less one", 5, made(SIX_JOBS.and(x -> x.begin(2)).and(by(2, "j1,0;j1,0;j1,0;j1,0;j1,0;"))).addJob(1, 0));
    }

    private static void addOperation() {
        sentence("Promise 4", "Adds an operation to the end of a job.");
        RepairShop x = made(by(3, "j1,0;j1,0;"));
        for (int operation = 0; operation < 5; operation++) {
            x.addOperation(0, operation % 3, 1 + operation);
            x.addOperation(1, 2 - operation % 3, 20 - operation);
            due("operations", "" + (operation + 1) + (operation + 1), "" + x.job(0, 2) + x.job(1, 2));
        }
        for (int operation = 0; operation < 5; operation++) {
            due("machine in job 0", operation % 3, x.operation(0, operation, 0));
            due("duration in job 0", 1 + operation, x.operation(0, operation, 1));
            due("machine in job 1", 2 - operation % 3, x.operation(1, operation, 0));
            due("duration in job 1", 20 - operation, x.operation(1, operation, 1));
        }
    }

    private static void addOperationUndone() {
        sentence("Promise 4", "Undoable.");
        undoable("the first", JOB, y -> y.addOperation(0, 2, 20));
        undoable("the second, which takes plans away", ALL_OF_IT, y -> y.addOperation(0, 0, 1));
        undoable("the fifth", by(3, "j1,0;o00,1;o00,1;o00,1;o00,1;"), y -> y.addOperation(0, 2, 20));
        RepairShop x = made(ALL_OF_IT);
        x.addOperation(0, 0, 7);
        x.undo();
        x.addOperation(0, 1, 8);
        due("another one in its place", "1 8", x.operation(0, 1, 0) + " " + x.operation(0, 1, 1));
    }

    private static void addOperationJob() {
        sentence("Promise 4", "- `job`: number of a job");
        refused("-1", INDEX, SIX_JOBS, y -> y.addOperation(-1, 0, 1));
        for (int job = 0; job < 6; job++) {
            RepairShop x = made(SIX_JOBS);
            x.addOperation(job, 0, 1);
            due("job " + job, 1, x.job(job, 2));
        }
        refused("6 of six", INDEX, SIX_JOBS, y -> y.addOperation(6, 0, 1));
        refused("1 of one", INDEX, JOB, y -> y.addOperation(1, 0, 1));
        refused("0 of none", INDEX, NEW, y -> y.addOperation(0, 0, 1));
    }

    private static void addOperationMachine() {
        sentence("Promise 4", "- `machine`: number of a machine");
        for (int machines = 2; machines <= 5; machines++) {
            Maker job = by(machines, "j1,0;");
            int past = machines;
            refused("-1", INDEX, job, y -> y.addOperation(0, -1, 1));
            for (int machine = 0; machine < machines; machine++) {
                RepairShop x = made(job);
                x.addOperation(0, machine, 1);
                due("machine", machine, x.operation(0, 0, 0));
            }
            refused(past + " of " + past, INDEX, job, y -> y.addOperation(0, past, 1));
        }
    }

    private static void addOperationDuration() {
        sentence("Promise 4", "- `duration`: 1 to 20");
        refused("0", ARGUMENT, JOB, y -> y.addOperation(0, 0, 0));
        for (int duration = 1; duration <= 20; duration++) {
            RepairShop x = made(JOB);
            x.addOperation(0, 0, duration);
            due("duration", duration, x.operation(0, 0, 1));
        }
        refused("21", ARGUMENT, JOB, y -> y.addOperation(0, 0, 21));
    }

    private static void addOperationReturns() {
        sentence("Promise 4", "Returns the number of the operation in its job.");
        RepairShop x = made(SIX_JOBS);
        for (int operation = 0; operation < 5; operation++) {
            for (int job = 0; job < 6; job++) {
                due("number", operation, x.addOperation(job, 0, 1));
            }
        }
        due("all that there is room for", 30, x.value(2));
    }

    private static void addOperationThrowsIndex() {
        sentence("Promise 4", "Throws `IndexOutOfBoundsException` if there is no such job or machine");
        for (int job : new int[] {LEAST, -1, 2, 5, 6, MOST}) {
            refused("job " + job, INDEX, FIVE_OPERATIONS, y -> y.addOperation(job, 0, 1));
            refused("job and machine, " + job, INDEX, FIVE_OPERATIONS, y -> y.addOperation(job, 3, 1));
            refused("job and duration, " + job, INDEX, FIVE_OPERATIONS, y -> y.addOperation(job, 0, 21));
        }
        for (int machine : new int[] {LEAST, -1, 3, 4, 5, MOST}) {
            refused("machine " + machine, INDEX, FIVE_OPERATIONS, y -> y.addOperation(1, machine, 1));
            refused("machine and duration, " + machine, INDEX, FIVE_OPERATIONS, y -> y.addOperation(1, machine, 0));
            refused("machine and no room, " + machine, INDEX, FIVE_OPERATIONS, y -> y.addOperation(0, machine, 1));
        }
    }

    private static void addOperationThrowsArgument() {
        sentence("Promise 4", "Throws `IllegalArgumentException` if duration is out of range");
        for (int duration : new int[] {LEAST, -1, 0, 21, 22, MOST}) {
            refused("duration " + duration, ARGUMENT, JOB, y -> y.addOperation(0, 0, duration));
            refused("no room, too, " + duration, ARGUMENT, FIVE_OPERATIONS, y -> y.addOperation(0, 0, duration));
        }
    }

    private static void addOperationThrowsState() {
        sentence("Promise 4", "Throws `IllegalStateException` if the job has 5 operations");
        due("it has 4", 4, made(by(3, "j1,0;o00,1;o00,1;o00,1;o00,1;")).addOperation(0, 0, 1));
        refused("it has 5", STATE, FIVE_OPERATIONS, y -> y.addOperation(0, 2, 20));
        due("another one has none", 0, made(FIVE_OPERATIONS).addOperation(1, 0, 1));
        for (int job = 0; job < 6; job++) {
            int each = job;
            refused("all that there is room for, job " + job, STATE, full(3, 0), y -> y.addOperation(each, 0, 1));
        }
    }

    private static void breakDown() {
        sentence("Promise 5", "Adds a breakdown.");
        RepairShop x = new RepairShop();
        for (int breakdown = 0; breakdown < 6; breakdown++) {
            x.breakDown(breakdown % 3, 500 - breakdown, 50 - breakdown);
            due("breakdowns", breakdown + 1, x.value(3));
        }
        for (int breakdown = 0; breakdown < 6; breakdown++) {
            due("machine", breakdown % 3, x.breakdown(breakdown, 0));
            due("begin", 500 - breakdown, x.breakdown(breakdown, 1));
            due("length", 50 - breakdown, x.breakdown(breakdown, 2));
        }
        x = made(NEW.and(y -> y.breakDown(1, 7, 8)));
        x.breakDown(1, 7, 8);
        due("one that is there already", 2, x.value(3));
    }

    private static void breakDownUndone() {
        sentence("Promise 5", "Undoable.");
        undoable("the first", NEW, y -> y.breakDown(0, 0, 1));
        undoable("one that hits", ALL_OF_IT, y -> y.breakDown(2, 0, 50));
        undoable("the sixth", broken(5), y -> y.breakDown(2, 500, 50));
    }

    private static void breakDownMachine() {
        sentence("Promise 5", "- `machine`: number of a machine");
        for (int machines = 2; machines <= 5; machines++) {
            int past = machines;
            refused("-1", INDEX, by(machines, ""), y -> y.breakDown(-1, 0, 1));
            for (int machine = 0; machine < machines; machine++) {
                RepairShop x = made(by(machines, ""));
                x.breakDown(machine, 0, 1);
                due("machine", machine, x.breakdown(0, 0));
            }
            refused(past + " of " + past, INDEX, by(machines, ""), y -> y.breakDown(past, 0, 1));
        }
    }

    private static void breakDownBegin() {
        sentence("Promise 5", "- `begin`: 0 to 500");
        refused("-1", ARGUMENT, NEW, y -> y.breakDown(0, -1, 1));
        for (int begin : new int[] {0, 1, 499, 500}) {
            RepairShop x = new RepairShop();
            x.breakDown(0, begin, 50);
            due("begin", begin, x.breakdown(0, 1));
        }
        refused("501", ARGUMENT, NEW, y -> y.breakDown(0, 501, 1));
    }

    private static void breakDownLength() {
        sentence("Promise 5", "- `length`: 1 to 50");
        refused("0", ARGUMENT, NEW, y -> y.breakDown(0, 0, 0));
        for (int length : new int[] {1, 2, 49, 50}) {
            RepairShop x = new RepairShop();
            x.breakDown(0, 500, length);
            due("length", length, x.breakdown(0, 2));
        }
        refused("51", ARGUMENT, NEW, y -> y.breakDown(0, 0, 51));
    }

    private static void breakDownReturns() {
        sentence("Promise 5", "Returns its number.");
        RepairShop x = new RepairShop();
        for (int breakdown = 0; breakdown < 6; breakdown++) {
            due("number", breakdown, x.breakDown(0, 0, 1));
        }
        x.repaired();
        due("the sixth again", 5, x.breakDown(0, 0, 1));
        x.begin(3);
        due("the first again", 0, x.breakDown(0, 0, 1));
    }

    private static void breakDownThrowsIndex() {
        sentence("Promise 5", "Throws `IndexOutOfBoundsException` if there is no such machine");
        for (int machine : new int[] {LEAST, -1, 3, 4, 5, MOST}) {
            refused("machine " + machine, INDEX, ALL_OF_IT, y -> y.breakDown(machine, 0, 1));
            refused("begin, too, " + machine, INDEX, ALL_OF_IT, y -> y.breakDown(machine, -1, 1));
            refused("length, too, " + machine, INDEX, ALL_OF_IT, y -> y.breakDown(machine, 0, 0));
            refused("no room, too, " + machine, INDEX, broken(6), y -> y.breakDown(machine, 0, 1));
        }
    }

    private static void breakDownThrowsArgument() {
        sentence("Promise 5", "Throws `IllegalArgumentException` if begin or length is out of range");
        for (int begin : new int[] {LEAST, -1, 501, 502, MOST}) {
            refused("begin " + begin, ARGUMENT, ALL_OF_IT, y -> y.breakDown(0, begin, 1));
            refused("both, begin " + begin, ARGUMENT, ALL_OF_IT, y -> y.breakDown(0, begin, 0));
            refused("no room, too, begin " + begin, ARGUMENT, broken(6), y -> y.breakDown(0, begin, 1));
        }
        for (int length : new int[] {LEAST, -1, 0, 51, 52, MOST}) {
            refused("length " + length, ARGUMENT, ALL_OF_IT, y -> y.breakDown(0, 0, length));
            refused("no room, too, length " + length, ARGUMENT, broken(6), y -> y.breakDown(0, 0, length));
        }
    }

    private static void breakDownThrowsState() {
        sentence("Promise 5", "Throws `IllegalStateException` if there are 6 breakdowns");
        due("there are 5", 5, made(broken(5)).breakDown(0, 0, 1));
        refused("there are 6", STATE, broken(6), y -> y.breakDown(0, 0, 1));
        refused("there are 6, of another machine", STATE, broken(6), y -> y.breakDown(2, 500, 50));
        due("there were 6", 5, made(broken(6).and(x -> x.repaired())).breakDown(0, 0, 1));
    }

    private static void repaired() {
        sentence("Promise 6", "Takes the latest breakdown away.");
        RepairShop x = made(broken(6));
        for (int left = 5; left >= 0; left--) {
            x.repaired();
            due("breakdowns", left, x.value(3));
            for (int breakdown = 0; breakdown < left; breakdown++) {
                due("the earlier ones stay", 490 + breakdown, x.breakdown(breakdown, 1));
            }
            int gone = left;
            due("the latest is gone", "throws IndexOutOfBoundsException", outcome(x, y -> y.breakdown(gone, 0)));
        }
        x = shop(2, "j1,0;o00,1;p0;d0,0,9;d1,0,9;");
        x.repaired();
        due("the earlier one hits still", 1, x.value(9));
        x.repaired();
        due("no one hits", 0, x.value(9));
        due("nor is it in a new plan's way", 1, x.plan(0));
    }

    private static void repairedUndone() {
        sentence("Promise 6", "Undoable.");
        undoable("of one", broken(1), y -> y.repaired());
        undoable("of six", broken(6), y -> y.repaired());
        RepairShop x = made(broken(2));
        x.repaired();
        x.breakDown(2, 0, 50);
        x.undo();
        x.undo();
        due("what took its place is gone", "0 491 1",
                x.breakdown(1, 0) + " " + x.breakdown(1, 1) + " " + x.breakdown(1, 2));
    }

    private static void repairedReturns() {
        sentence("Promise 6", "Returns the breakdowns that are left.");
        RepairShop x = made(broken(6));
        for (int left = 5; left >= 0; left--) {
            due("left", left, x.repaired());
        }
    }

    private static void repairedThrows() {
        sentence("Promise 6", "Throws `IllegalStateException` if there is none");
        refused("of a new object", STATE, NEW, y -> y.repaired());
        refused("the last one is repaired", STATE, broken(1).and(x -> x.repaired()), y -> y.repaired());
        refused("after begin", STATE, broken(6).and(x -> x.begin(3)), y -> y.repaired());
        due("one is there", 0, made(broken(1)).repaired());
    }
}
