import java.math.BigInteger;
import java.util.ArrayList;
import java.util.List;

/** The edges that the terms "undo" and "exceptions" and promises 28 and 29 name. */
public final class StateEdgesTest extends Edges {
    private static final Maker SOME = by(3, "j3,10;o00,4;o01,3;d0,9,1;p0;");

    public static void main(String[] args) {
        savesEachSuccessfulCall();
        savesNoOtherCall();
        savesAtMostFour();
        savesAllButTheText();
        changesNothingByThrowing();
        throwsTheFirst();
        throwsTheFirstOfAll();
        undo();
        undoRows();
        undoReturns();
        undoThrows();
        digest();
        digestOfTexts();
        digestOfSavedStates();
        digestOverflows();
        close("StateEdgesTest");
    }

    private static final String SAVES = "Undo. Each successful call of a method whose description says \"undoable\" "
            + "saves the state from before the call, even if the call changes nothing; at most 4 states are saved, "
            + "and the oldest is dropped first.";

    private static void savesEachSuccessfulCall() {
        sentence("Terms, Undo", SAVES);
        undoable("begin", SOME, y -> y.begin(3));
        undoable("addJob", SOME, y -> y.addJob(1, 1));
        undoable("addOperation", SOME, y -> y.addOperation(0, 2, 2));
        undoable("breakDown", SOME, y -> y.breakDown(1, 1, 1));
        undoable("repaired", SOME, y -> y.repaired());
        undoable("plan, which changes nothing", SOME, y -> y.plan(0));
        undoable("shift, which changes nothing", SOME, y -> y.shift());
        undoable("replan, which changes nothing", SOME, y -> y.replan(0, 0));
        undoable("accept, which changes nothing", SOME, y -> y.accept());
        undoable("bargain", SOME, y -> y.bargain(0, 1));
        undoable("overtime", SOME, y -> y.overtime(0, 0));
        undoable("carryOut, which changes nothing", SOME, y -> y.carryOut());
    }

    private static void savesNoOtherCall() {
        sentence("Terms, Undo", SAVES);
        Checks.Call[] calls = {y -> y.job(0, 5), y -> y.operation(0, 1, 4), y -> y.breakdown(0, 2), y -> y.value(9),
            y -> y.meeting(), y -> y.onMachine(0, 0), y -> y.latenessBy(3), y -> y.bestRule(), y -> y.latenessShifted(),
            y -> y.bestReplan(5), y -> y.bestOvertime(2), y -> y.usage(), y -> y.append('p') + y.clearText(),
            y -> y.digest() == y.digest()};
        for (int call = 0; call < calls.length; call++) {
            changesNothing("call " + call, outcome(made(SOME), calls[call]), SOME, calls[call]);
        }
    }

    /** So many jobs, whose due dates tell them, and what undo answers then until it throws. */
    private static String undone(int jobs) {
        RepairShop x = new RepairShop();
        for (int job = 0; job < jobs; job++) {
            x.addJob(1, job);
        }
        StringBuilder told = new StringBuilder();
        for (int undos = 0; undos < 6; undos++) {
            told.append(outcome(x, y -> y.undo())).append(" of ").append(x.value(1)).append(", ");
        }
        return told.toString().replace("throws IllegalStateException", "none");
    }

    private static void savesAtMostFour() {
        sentence("Terms, Undo", SAVES);
        due("none", "none of 0, none of 0, none of 0, none of 0, none of 0, none of 0, ", undone(0));
        due("one", "0 of 0, none of 0, none of 0, none of 0, none of 0, none of 0, ", undone(1));
        due("three", "2 of 2, 1 of 1, 0 of 0, none of 0, none of 0, none of 0, ", undone(3));
        due("four", "3 of 3, 2 of 2, 1 of 1, 0 of 0, none of 0, none of 0, ", undone(4));
        due("five", "3 of 4, 2 of 3, 1 of 2, 0 of 1, none of 1, none of 1, ", undone(5));
        due("six", "3 of 5, 2 of 4, 1 of 3, 0 of 2, none of 2, none of 2, ", undone(6));
        for (int calls = 400; calls < 404; calls++) {
            RepairShop x = made(by(2, "j1,0;"));
            for (int call = 1; call <= calls; call++) {
                x.bargain(0, 2);
            }
            for (int undos = 1; undos <= 4; undos++) {
                due("of " + calls + " calls, undo", 4 - undos, x.undo());
                due("of " + calls + " calls, due date", 2 * (calls - undos), x.job(0, 1));
            }
            due("of " + calls + " calls", "throws IllegalStateException", outcome(x, y -> y.undo()));
        }
    }

    private static void savesAllButTheText() {
        sentence("Terms, Undo", "The saved state contains everything except the text.");
        Maker all = by(5, "j3,10;o00,4;o01,3;j2,10;o10,5;o14,2;d0,9,1;d4,2,2;p0;")
                .and(x -> x.bargain(0, 3)).and(x -> x.replan(3, 1));
        String before = allOf(made(all));
        Checks.Call[] calls = {y -> y.begin(2), y -> y.addJob(1, 1), y -> y.addOperation(1, 4, 2),
            y -> y.breakDown(1, 1, 1), y -> y.repaired(), y -> y.plan(2), y -> y.shift(), y -> y.replan(500, 2),
            y -> y.accept(), y -> y.bargain(1, 7), y -> y.overtime(1, 1)};
        for (int call = 0; call < calls.length; call++) {
            RepairShop x = made(all);
            type(x, "p0;");
            calls[call].on(x);
            type(x, "p1;x");
            x.undo();
            due("all as before call " + call, before, allOf(x));
            due("the text is as it is now", -10 - 6, x.carryOut());
            due("and as long", 7, x.clearText());
            x.undo();
            due("it does not come back", 0, x.clearText());
        }
    }

    /** A shop in which every method refuses something: all is there that there is room for. */
    private static final Maker FULL = full(3, 0).and(broken(6));

    private static void changesNothingByThrowing() {
        sentence("Terms, Exceptions", "Exceptions. A call that throws an exception changes nothing.");
        refused("begin", ARGUMENT, FULL, y -> y.begin(6));
        refused("addJob, weight", ARGUMENT, SOME, y -> y.addJob(10, 1));
        refused("addJob, due", ARGUMENT, SOME, y -> y.addJob(9, 1000));
        refused("addJob, room", STATE, FULL, y -> y.addJob(1, 1));
        refused("addOperation, job", INDEX, SOME, y -> y.addOperation(1, 0, 1));
        refused("addOperation, machine", INDEX, SOME, y -> y.addOperation(0, 3, 1));
        refused("addOperation, duration", ARGUMENT, SOME, y -> y.addOperation(0, 0, 21));
        refused("addOperation, room", STATE, FULL, y -> y.addOperation(0, 0, 1));
        refused("breakDown, machine", INDEX, SOME, y -> y.breakDown(3, 0, 1));
        refused("breakDown, begin", ARGUMENT, SOME, y -> y.breakDown(0, 501, 1));
        refused("breakDown, length", ARGUMENT, SOME, y -> y.breakDown(0, 0, 51));
        refused("breakDown, room", STATE, FULL, y -> y.breakDown(0, 0, 1));
        refused("repaired", STATE, full(3, 0), y -> y.repaired());
        refused("plan", ARGUMENT, FULL, y -> y.plan(4));
        refused("shift", STATE, SOME.and(x -> x.addJob(1, 1)), y -> y.shift());
        refused("replan, moment", ARGUMENT, SOME, y -> y.replan(1000, 0));
        refused("replan, rule", ARGUMENT, SOME, y -> y.replan(0, 4));
        refused("replan, no plan", STATE, SOME.and(x -> x.addJob(1, 1)), y -> y.replan(0, 0));
        refused("accept", STATE, SOME.and(x -> x.addJob(1, 1)), y -> y.accept());
        refused("bargain, job", INDEX, SOME, y -> y.bargain(1, 1));
        refused("bargain, units", ARGUMENT, SOME, y -> y.bargain(0, 100));
        refused("bargain, too late", STATE, SOME.and(x -> x.addJob(9, 950)), y -> y.bargain(1, 50));
        refused("overtime, job", INDEX, SOME, y -> y.overtime(1, 0));
        refused("overtime, operation", INDEX, SOME, y -> y.overtime(0, 2));
        refused("overtime, duration", STATE, SOME.and(x -> x.addOperation(0, 0, 1)), y -> y.overtime(0, 2));
        refused("job", INDEX, FULL, y -> y.job(6, 0));
        refused("job, what", ARGUMENT, FULL, y -> y.job(5, 6));
        refused("operation, job", INDEX, FULL, y -> y.operation(6, 0, 0));
        refused("operation", INDEX, FULL, y -> y.operation(5, 5, 0));
        refused("operation, what", ARGUMENT, FULL, y -> y.operation(5, 4, 5));
        refused("breakdown", INDEX, FULL, y -> y.breakdown(6, 0));
        refused("breakdown, what", ARGUMENT, FULL, y -> y.breakdown(5, 3));
        refused("value", ARGUMENT, FULL, y -> y.value(10));
        refused("onMachine", INDEX, FULL, y -> y.onMachine(3, 0));
        refused("onMachine, place", INDEX, FULL, y -> y.onMachine(0, -1));
        refused("latenessBy", ARGUMENT, FULL, y -> y.latenessBy(4));
        refused("bestReplan", ARGUMENT, FULL, y -> y.bestReplan(1000));
        refused("bestOvertime", ARGUMENT, FULL, y -> y.bestOvertime(4));
        refused("append", ARGUMENT, FULL, y -> y.append(128));
        changesNothing("append, room", "throws IllegalStateException", FULL.and(x -> type(x, "p".repeat(100))),
                y -> y.append('p'));
    }

    private static void throwsTheFirst() {
        sentence("Terms, Exceptions", "If several exceptions apply, the one that is listed first is thrown.");
        refused("addJob: argument ahead of state", ARGUMENT, FULL, y -> y.addJob(0, 0));
        refused("addJob: argument ahead of state", ARGUMENT, FULL, y -> y.addJob(1, 1000));
        refused("addOperation: index ahead of argument", INDEX, SOME, y -> y.addOperation(1, 0, 0));
        refused("addOperation: index ahead of argument", INDEX, SOME, y -> y.addOperation(0, 3, 21));
        refused("addOperation: index ahead of state", INDEX, FULL, y -> y.addOperation(0, 3, 1));
        refused("addOperation: argument ahead of state", ARGUMENT, FULL, y -> y.addOperation(0, 0, 21));
        refused("breakDown: index ahead of argument", INDEX, SOME, y -> y.breakDown(3, -1, 1));
        refused("breakDown: index ahead of argument", INDEX, SOME, y -> y.breakDown(3, 0, 51));
        refused("breakDown: index ahead of state", INDEX, FULL, y -> y.breakDown(3, 0, 1));
        refused("breakDown: argument ahead of state", ARGUMENT, FULL, y -> y.breakDown(0, 501, 1));
        refused("breakDown: argument ahead of state", ARGUMENT, FULL, y -> y.breakDown(0, 0, 0));
        refused("replan: argument ahead of state", ARGUMENT, NEW, y -> y.replan(-1, 0));
        refused("replan: argument ahead of state", ARGUMENT, NEW, y -> y.replan(0, -1));
        refused("bargain: index ahead of argument", INDEX, SOME, y -> y.bargain(1, 0));
        refused("bargain: argument ahead of state", ARGUMENT, SOME.and(x -> x.addJob(9, 950)), y -> y.bargain(1, 100));
        refused("bargain: index, though the others would be too late", INDEX, by(3, "j1,999;"), y -> y.bargain(1, 1));
        refused("overtime: index, though the others are of duration 1", INDEX, by(3, "j1,9;o00,1;"),
                y -> y.overtime(0, 1));
        refused("job: index ahead of argument", INDEX, SOME, y -> y.job(1, 6));
        refused("operation: index ahead of argument", INDEX, SOME, y -> y.operation(1, 0, 5));
        refused("operation: index ahead of argument", INDEX, SOME, y -> y.operation(0, 2, -1));
        refused("breakdown: index ahead of argument", INDEX, SOME, y -> y.breakdown(1, 3));
        changesNothing("append: argument ahead of state", "throws IllegalArgumentException",
                FULL.and(x -> type(x, "p".repeat(100))), y -> y.append(-1));
    }

    private static void throwsTheFirstOfAll() {
        sentence("Terms, Exceptions", "If several exceptions apply, the one that is listed first is thrown.");
        refused("addOperation: all three", INDEX, FULL, y -> y.addOperation(0, 3, 0));
        refused("addOperation: all three, no job", INDEX, FULL, y -> y.addOperation(6, 3, 0));
        refused("breakDown: all three", INDEX, FULL, y -> y.breakDown(-1, -1, 0));
        refused("addJob: both arguments and state", ARGUMENT, FULL, y -> y.addJob(10, -1));
        refused("replan: both arguments and state", ARGUMENT, NEW, y -> y.replan(1000, 4));
    }

    // ---- undo

    private static void undo() {
        sentence("Promise 28", "Restores the most recently saved state and removes it from the saved states.");
        RepairShop x = new RepairShop();
        x.addJob(1, 10);
        x.addJob(2, 20);
        x.addOperation(1, 2, 7);
        x.undo();
        due("the last call is undone", "2 0", x.value(1) + " " + x.value(2));
        x.undo();
        due("and the one before it", "1 0", x.value(1) + " " + x.value(2));
        x.addJob(3, 30);
        due("another one instead", "3 30", x.job(1, 0) + " " + x.job(1, 1));
        x.undo();
        due("which is undone", 1, x.value(1));
        x.undo();
        due("and the very first", 0, x.value(1));
        due("none is left", "throws IllegalStateException", outcome(x, y -> y.undo()));
    }

    /** What was written over comes back, from the first place to the last. */
    private static void undoRows() {
        sentence("Promise 28", "Restores the most recently saved state and removes it from the saved states.");
        Maker all = full(5, 4).and(broken(6));
        RepairShop x = made(all);
        String before = allOf(x);
        x.begin(2);
        for (int job = 0; job < 2; job++) {
            x.addJob(1, 500);
        }
        carryOut(x, "o00,1;o01,2;o10,3;d1,5,5;d0,6,6;p0;");
        due("something else", "2 2 3 2 1 0 0 0 4 0", values(x));
        for (int undos = 0; undos < 4; undos++) {
            x.undo();
        }
        due("a full shop", before, allOf(x));
        x = made(all);
        for (int bought = 0; bought < 4; bought++) {
            x.overtime(5, 4);
        }
        due("durations", "16 12", x.operation(5, 4, 1) + " " + x.value(5));
        for (int undos = 0; undos < 4; undos++) {
            x.undo();
        }
        due("a full shop", before, allOf(x));
    }

    private static void undoReturns() {
        sentence("Promise 28", "Returns the number of saved states that remain.");
        for (int calls = 1; calls <= 6; calls++) {
            RepairShop x = new RepairShop();
            for (int call = 0; call < calls; call++) {
                x.addJob(1, 1);
            }
            for (int left = Math.min(calls, 4) - 1; left >= 0; left--) {
                due("after " + calls + " calls", left, x.undo());
            }
            due("after " + calls + " calls", "throws IllegalStateException", outcome(x, y -> y.undo()));
        }
    }

    private static void undoThrows() {
        sentence("Promise 28", "Throws `IllegalStateException` if there is no saved state");
        for (int calls = 0; calls <= 5; calls++) {
            RepairShop x = new RepairShop();
            for (int call = 0; call < calls; call++) {
                x.addJob(1, call);
            }
            for (int undos = Math.min(calls, 4); undos > 0; undos--) {
                x.undo();
            }
            type(x, "p0;");
            long before = x.digest();
            for (int again = 0; again < 5; again++) {
                due("after " + calls + " calls", "throws IllegalStateException", outcome(x, y -> y.undo()));
                due("nothing is changed", before, x.digest());
            }
            due("the text stays", 1, x.carryOut());
            due("a state is saved again", 0, x.undo());
            due("the very same", before, x.digest());
        }
    }

    // ---- digest

    private static final String HASH = "Returns a hash of the state. Start with h = 3719 and, for each of the "
            + "following values v, set h = 31 * h + v: the length of the text; value() for 0 to 9; for each job the "
            + "values of job() for what = 0 to 5, and for each of its operations those of operation() for what = 0 "
            + "to 4; for each breakdown the values of breakdown() for what = 0 to 2; meeting(); latenessShifted(); "
            + "the number of saved states.";

    private static List<Integer> hashed(RepairShop x, int text, int saved) {
        List<Integer> all = new ArrayList<>();
        all.add(text);
        for (String one : allOf(x).split(" ")) {
            all.add(Integer.parseInt(one));
        }
        all.add(x.meeting());
        all.add(x.latenessShifted());
        all.add(saved);
        return all;
    }

    private static long hash(List<Integer> values) {
        long h = 3719;
        for (int v : values) {
            h = 31 * h + v;
        }
        return h;
    }

    private static void dueDigest(String what, Maker maker, int saved) {
        RepairShop x = made(maker);
        due(what, hash(hashed(x, 0, saved)), x.digest());
        due(what + ", again", hash(hashed(x, 0, saved)), x.digest());
    }

    private static void digest() {
        sentence("Promise 29", HASH);
        dueDigest("a new object", NEW, 0);
        due("a new object", hash(List.of(0, 3, 0, 0, 0, 0, 0, -1, -1, -1, -1, -1, -1, 0)), new RepairShop().digest());
        dueDigest("a job without operations", by(3, "j1,0;"), 1);
        dueDigest("one with a plan", by(3, "j1,0;p0;"), 1);
        dueDigest("one operation", by(3, "j9,999;o02,20;"), 1);
        dueDigest("one with a plan", by(3, "j9,999;o02,20;p0;"), 1);
        dueDigest("one breakdown", by(3, "d2,500,50;"), 1);
        dueDigest("one that is hit", by(3, "j9,0;o02,20;p0;d2,19,1;"), 1);
        dueDigest("shifted", by(3, "j9,0;o02,20;p0;d2,19,1;").and(x -> x.shift()), 2);
        dueDigest("all that there is room for", full(5, 4).and(broken(6)), 4);
        dueDigest("and costs", full(5, 4).and(broken(6)).and(x -> x.bargain(5, 99)), 4);
        dueDigest("without a plan", full(5, 4).and(broken(6)).and(x -> x.overtime(5, 4)), 4);
        due("a job's values come ahead of its operations'",
                hash(List.of(0, 3, 1, 1, 0, 1, 0, 3, 3, 6, 0, 3, 5, 1, 6, 6, 1, 2, 6, 0, 0, 0, 0, 3, 1)),
                made(by(3, "j3,5;o02,6;p0;")).digest());
    }

    private static void digestOfTexts() {
        sentence("Promise 29", HASH);
        RepairShop x = new RepairShop();
        for (int text = 1; text <= 100; text++) {
            x.append(';');
            due("text of " + text, hash(hashed(x, text, 0)), x.digest());
        }
        x.clearText();
        due("no text", hash(hashed(x, 0, 0)), x.digest());
    }

    private static void digestOfSavedStates() {
        sentence("Promise 29", HASH);
        RepairShop x = new RepairShop();
        for (int saved = 1; saved <= 6; saved++) {
            x.addJob(1, saved);
            due("saved " + saved, hash(hashed(x, 0, Math.min(saved, 4))), x.digest());
        }
        for (int left = 3; left >= 0; left--) {
            x.undo();
            due("left " + left, hash(hashed(x, 0, left)), x.digest());
        }
    }

    private static void digestOverflows() {
        sentence("Promise 29", "Returns the hash, with the overflow of long arithmetic ignored.");
        for (Maker maker : new Maker[] {NEW, full(5, 4).and(broken(6))}) {
            RepairShop x = made(maker);
            BigInteger h = BigInteger.valueOf(3719);
            int saved = maker == NEW ? 0 : 4;
            for (int v : hashed(x, 0, saved)) {
                h = h.multiply(BigInteger.valueOf(31)).add(BigInteger.valueOf(v));
            }
            due("it is greater than a long", true, h.bitLength() > 64);
            due("the least 64 bits", h.longValue(), x.digest());
        }
    }
}
