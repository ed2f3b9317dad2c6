/** The edges that promises 19 to 24 name. */
public final class WhatIfEdgesTest extends Edges {
    private static final Maker NO_PLAN = by(2, "j3,5;o00,4;o01,3;");
    private static final Maker ONE = by(2, "j3,5;o00,4;o01,3;p0;");
    /** Lateness by the rules: 5, 0, 0, 0. */
    private static final String RULE_1 = "j1,4;o00,4;j1,7;o10,3;j1,9;o20,2;";
    /** 18, 18, 3, 18. */
    private static final String RULE_2 = "j1,4;o00,2;j9,5;o10,5;";
    /** 5, 5, 5, 4. */
    private static final String RULE_3 = "j1,0;o00,1;o00,1;j1,0;o10,1;";
    /** 4, 5, 5, 5. */
    private static final String RULE_0 = "j1,0;o00,2;j1,0;o10,1;";
    /** 27, 20, 20, 20. */
    private static final String RULES_1_TO_3 = "j9,0;o00,2;j1,1;o10,1;";
    /** 19, 19, 12, 12. */
    private static final String RULES_2_AND_3 = "j9,1;o00,2;j1,0;o10,1;";

    public static void main(String[] args) {
        latenessBy();
        latenessByRule();
        latenessByReturns();
        latenessByThrows();
        bestRule();
        bestRuleReturns();
        latenessShifted();
        latenessShiftedReturns();
        bestReplan();
        bestReplanMoment();
        bestReplanReturns();
        bestReplanReturnsInFull();
        bestReplanThrows();
        bestOvertime();
        bestOvertimeRule();
        bestOvertimeReturns();
        bestOvertimeOfDurationOne();
        bestOvertimeThrows();
        usage();
        usageReturns();
        close("WhatIfEdgesTest");
    }

    private static void changesNothing(Maker maker, Checks.Call question) {
        Maker withText = maker.and(x -> type(x, "p1;"));
        changesNothing("the answer", outcome(made(withText), question), withText, question);
    }

    private static void latenessBy() {
        sentence("Promise 19", "Tells the lateness of the plan that plan() would make.");
        for (int rule = 0; rule <= 3; rule++) {
            int by = rule;
            for (Maker maker : new Maker[] {NEW, NO_PLAN, ONE, by(2, RULE_2 + "d0,1,2;"), full(2, 0)}) {
                due("as plan(" + rule + ")", made(maker).plan(rule), made(maker).latenessBy(rule));
                changesNothing(maker, y -> y.latenessBy(by));
            }
        }
        RepairShop x = made(by(2, RULE_2 + "p2;d0,0,50;"));
        x.replan(999, 0);
        due("it starts from 0 on, without any start, but round the breakdown", 53 + 9 * 50, x.latenessBy(2));
    }

    private static void latenessByRule() {
        sentence("Promise 19", "- `rule`: 0 to 3");
        refused("-1", ARGUMENT, by(2, RULE_3), y -> y.latenessBy(-1));
        int[][] lateness = {{18, 18, 3, 18}, {5, 5, 5, 4}};
        for (int rule = 0; rule <= 3; rule++) {
            due("rule " + rule, lateness[0][rule], made(by(2, RULE_2)).latenessBy(rule));
            due("rule " + rule, lateness[1][rule], made(by(2, RULE_3)).latenessBy(rule));
        }
        refused("4", ARGUMENT, by(2, RULE_3), y -> y.latenessBy(4));
    }

    private static void latenessByReturns() {
        sentence("Promise 19", "Returns the lateness.");
        due("no jobs", 0, new RepairShop().latenessBy(0));
        due("no operations", 0, shop(2, "j9,0;").latenessBy(3));
        due("just in time", 0, shop(2, "j9,7;o00,4;o01,3;").latenessBy(1));
        due("late by 1", 9, shop(2, "j9,6;o00,4;o01,3;").latenessBy(2));
        due("all that there is room for", 18900, made(full(2, 0)).latenessBy(0));
    }

    private static void latenessByThrows() {
        sentence("Promise 19", "Throws `IllegalArgumentException` if rule is out of range");
        for (int rule : new int[] {LEAST, -2, -1, 4, 5, MOST}) {
            refused("latenessBy(" + rule + ")", ARGUMENT, ONE, y -> y.latenessBy(rule));
            refused("latenessBy(" + rule + ") of a new object", ARGUMENT, NEW, y -> y.latenessBy(rule));
        }
    }

    private static void bestRule() {
        sentence("Promise 20", "Finds the rule with the least lateness by latenessBy().");
        due("rule 0", 0, shop(2, RULE_0).bestRule());
        due("rule 1", 1, shop(2, RULE_1).bestRule());
        due("rule 2", 2, shop(2, RULE_2).bestRule());
        due("rule 3", 3, shop(2, RULE_3).bestRule());
        for (Maker maker : new Maker[] {NEW, NO_PLAN, by(2, RULE_3 + "p0;"), full(2, 0)}) {
            changesNothing(maker, y -> y.bestRule());
        }
        due("whatever plan there is", 3, shop(2, RULE_3 + "p2;").bestRule());
        due("behind a breakdown", 2, shop(2, RULE_2 + "d0,0,50;").bestRule());
        due("a breakdown ahead of which only job 0 fits", 0, shop(2, RULE_2 + "d0,2,3;").bestRule());
    }

    private static void bestRuleReturns() {
        sentence("Promise 20", "Returns the rule, of several the lowest one.");
        due("no jobs: all of them", 0, new RepairShop().bestRule());
        due("no operations: all of them", 0, shop(2, "j9,0;").bestRule());
        due("one operation: all of them", 0, shop(2, "j9,0;o00,5;").bestRule());
        due("all that there is room for, all alike", 0, made(full(2, 0)).bestRule());
        due("1 to 3", 1, shop(2, RULES_1_TO_3).bestRule());
        due("2 and 3", 2, shop(2, RULES_2_AND_3).bestRule());
    }

    private static void latenessShifted() {
        sentence("Promise 21", "Tells the lateness of the plan that shift() would make.");
        Maker[] makers = {x -> x.plan(0), ONE, ONE.and(x -> x.breakDown(0, 0, 1)), ONE.and(x -> x.breakDown(1, 4, 50)),
            ONE.and(x -> x.replan(0, 3)), full(2, 0).and(broken(6))};
        for (Maker maker : makers) {
            due("as shift()", made(maker).shift(), made(maker).latenessShifted());
            changesNothing(maker, y -> y.latenessShifted());
        }
        changesNothing(NO_PLAN, y -> y.latenessShifted());
    }

    private static void latenessShiftedReturns() {
        sentence("Promise 21", "Returns the lateness; NONE without a plan.");
        due("a new object", NONE, new RepairShop().latenessShifted());
        due("no plan", NONE, made(NO_PLAN).latenessShifted());
        due("the plan is gone", NONE, made(ONE.and(x -> x.overtime(0, 0))).latenessShifted());
        due("no operations", 0, made(x -> x.plan(0)).latenessShifted());
        due("nothing to shift", 6, made(ONE).latenessShifted());
        due("by 1", 9, made(ONE.and(x -> x.breakDown(0, 0, 1))).latenessShifted());
        RepairShop x = shop(2, RULE_2 + "p2;");
        x.replan(0, 0);
        due("the old plan is shifted: 3, not 18", 3, x.latenessShifted());
        due("all that there is room for", 9 * (2100 + 300),
                made(full(2, 0).and(y -> y.breakDown(0, 0, 50))).latenessShifted());
    }

    private static void bestReplan() {
        sentence("Promise 22", "Finds the rule with which replan() from a moment on would lead to the least lateness.");
        due("rule 0", 4, shop(2, RULE_0 + "p1;").bestReplan(0));
        due("rule 1", 1000000, shop(2, RULE_1 + "p0;").bestReplan(0));
        due("rule 2", 2000003, shop(2, RULE_2 + "p0;").bestReplan(0));
        due("rule 3", 3000004, shop(2, RULE_3 + "p0;").bestReplan(0));
        // From 1 on job 0 of RULE_2 keeps its start 0, and job 1 has no other than 2.
        for (int moment : new int[] {1, 2, 3, 999}) {
            due("one is kept, all are kept, from " + moment, 18, shop(2, RULE_2 + "p0;").bestReplan(moment));
        }
        for (Maker maker : new Maker[] {NEW, NO_PLAN, ONE, by(2, RULE_3 + "p0;"), full(2, 0)}) {
            changesNothing(maker, y -> y.bestReplan(0));
        }
    }

    private static void bestReplanMoment() {
        sentence("Promise 22", "- `moment`: 0 to 999");
        Maker hit = by(2, "j1,0;o00,1;p0;d0,0,1;");
        refused("-1", ARGUMENT, hit, y -> y.bestReplan(-1));
        due("0, but the breakdown is there", 2, made(hit).bestReplan(0));
        for (int moment : new int[] {1, 2, 998, 999}) {
            due("" + moment, moment + 1, made(hit).bestReplan(moment));
        }
        refused("1000", ARGUMENT, hit, y -> y.bestReplan(1000));
    }

    private static void bestReplanReturns() {
        sentence("Promise 22", "Returns 1000000 * the rule + the lateness (at most 999999 is told of it), of "
                + "several rules the lowest one; NONE without a plan.");
        due("a new object", NONE, new RepairShop().bestReplan(0));
        due("no plan", NONE, made(NO_PLAN).bestReplan(999));
        due("the plan is gone", NONE, made(ONE.and(x -> x.addJob(1, 1))).bestReplan(0));
        due("no operations, all rules", 0, made(x -> x.plan(3)).bestReplan(0));
        due("all are kept, all rules", 6, made(ONE).bestReplan(999));
        due("rules 1 to 3", 1000020, shop(2, RULES_1_TO_3 + "p0;").bestReplan(0));
        due("rules 2 and 3", 2000012, shop(2, RULES_2_AND_3 + "p0;").bestReplan(0));
        due("rule 1 without lateness", 1000000, shop(2, RULE_1 + "p0;").bestReplan(0));
    }

    /** The greatest lateness that there is in such a shop: six jobs are hit at once, and begin anew at 999. */
    private static void bestReplanReturnsInFull() {
        sentence("Promise 22", "Returns 1000000 * the rule + the lateness (at most 999999 is told of it), of "
                + "several rules the lowest one; NONE without a plan.");
        RepairShop x = made(full(2, 0));
        for (int job = 0; job < 6; job++) {
            x.breakDown(0, 100 * job, 1);
        }
        due("told in full", 9 * (1099 + 1199 + 1299 + 1399 + 1499 + 1599), x.bestReplan(999));
        due("as replan()", 72846, x.replan(999, 0));
    }

    private static void bestReplanThrows() {
        sentence("Promise 22", "Throws `IllegalArgumentException` if moment is out of range");
        for (Maker maker : new Maker[] {ONE, NO_PLAN, NEW}) {
            for (int moment : new int[] {LEAST, -2, -1, 1000, 1001, MOST}) {
                refused("bestReplan(" + moment + ")", ARGUMENT, maker, y -> y.bestReplan(moment));
            }
        }
    }

    private static void bestOvertime() {
        sentence("Promise 23",
                "Finds the operation for which overtime would make the lateness by latenessBy() the least.");
        due("not the first that makes it less", 10, shop(2, "j1,0;o00,3;j9,0;o11,3;").bestOvertime(0));
        due("nor the last", 0, shop(2, "j9,0;o00,3;j1,0;o11,3;").bestOvertime(0));
        // 1-0 goes first, and ends at 4: 9 * 4 + 9. Overtime for 0-0 would put it ahead: 4 + 9 * 8.
        due("the order that the rule makes then", 10, shop(2, "j1,0;o00,5;j9,0;o10,4;").bestOvertime(0));
        due("the last of all", 54, made(by(2, "j9,99;j9,99;j9,99;j9,99;j9,99;j9,0;o51,1;o51,1;o51,1;o51,1;o51,2;")
                .and(x -> x.addOperation(0, 0, 20))).bestOvertime(0));
        for (Maker maker : new Maker[] {NEW, NO_PLAN, ONE, by(2, RULE_2 + "p0;"), full(2, 0)}) {
            changesNothing(maker, y -> y.bestOvertime(0));
        }
    }

    private static void bestOvertimeRule() {
        sentence("Promise 23", "- `rule`: 0 to 3");
        refused("-1", ARGUMENT, ONE, y -> y.bestOvertime(-1));
        // Overtime for what goes first helps both jobs; by rule 0 it can make a job go first.
        String[] orders = {"j2,0;o00,3;j2,0;o10,2;", "j5,1;o00,5;j5,0;o10,5;", "j1,0;o00,5;j2,0;o10,5;",
            "j5,0;o00,5;o01,1;j5,0;o10,5;"};
        int[][] best = {{10, 0, 0, 0}, {0, 10, 0, 0}, {10, 0, 10, 0}, {0, 0, 0, 10}};
        for (int one = 0; one < orders.length; one++) {
            for (int rule = 0; rule <= 3; rule++) {
                due("rule " + rule + ", " + orders[one], best[one][rule], shop(2, orders[one]).bestOvertime(rule));
            }
        }
        refused("4", ARGUMENT, ONE, y -> y.bestOvertime(4));
    }

    private static void bestOvertimeReturns() {
        sentence("Promise 23",
                "Returns 10 * job + operation, of several the lowest one; NONE if no operation makes it less.");
        due("no jobs", NONE, new RepairShop().bestOvertime(0));
        due("no operations", NONE, shop(2, "j9,0;").bestOvertime(0));
        due("late by 1", 0, shop(2, "j1,1;o00,2;").bestOvertime(0));
        due("just in time", NONE, shop(2, "j1,2;o00,2;").bestOvertime(0));
        due("of three of a job", 0, shop(2, "j1,0;o00,2;o01,2;o00,2;").bestOvertime(0));
        due("of two jobs", 0, shop(2, "j1,0;o00,2;j1,0;o11,2;").bestOvertime(0));
        due("all that there is room for", 0, made(full(2, 0)).bestOvertime(0));
        due("one that ends ahead of a breakdown anyway", 1, shop(2, "j1,0;o00,2;o01,2;d1,0,5;").bestOvertime(0));
        due("late, but held up by a breakdown", NONE, shop(2, "j1,0;o00,2;o01,1;d1,0,5;").bestOvertime(0));
    }

    private static void bestOvertimeOfDurationOne() {
        sentence("Promise 23",
                "Returns 10 * job + operation, of several the lowest one; NONE if no operation makes it less.");
        due("one", NONE, shop(2, "j9,0;o00,1;").bestOvertime(0));
        due("all of them", NONE, shop(2, "j9,0;o00,1;o01,1;j9,0;o10,1;").bestOvertime(0));
        due("the first of them", 1, shop(2, "j9,0;o00,1;o01,2;").bestOvertime(0));
    }

    private static void bestOvertimeThrows() {
        sentence("Promise 23", "Throws `IllegalArgumentException` if rule is out of range");
        for (int rule : new int[] {LEAST, -2, -1, 4, 5, MOST}) {
            refused("bestOvertime(" + rule + ")", ARGUMENT, ONE, y -> y.bestOvertime(rule));
            refused("bestOvertime(" + rule + ") of a new object", ARGUMENT, NEW, y -> y.bestOvertime(rule));
        }
    }

    private static void usage() {
        sentence("Promise 24",
                "Returns how much of the time until the greatest end the machines work in the present plan.");
        due("one of two machines", 0.5, shop(2, "j1,0;o00,7;p0;").usage());
        due("both machines", 1.0, shop(2, "j1,0;o00,20;j1,0;o11,20;p0;").usage());
        due("five machines", 1.0, shop(5, "j1,0;o00,1;j1,0;o11,1;j1,0;o22,1;j1,0;o33,1;j1,0;o44,1;p0;").usage());
        RepairShop x = shop(2, "j1,0;o00,5;p0;d0,0,15;");
        due("ahead of the shift", 0.5, x.usage());
        x.shift();
        due("by the present plan", 5.0 / 40.0, x.usage());
        changesNothing(ONE, y -> y.usage());
    }

    private static void usageReturns() {
        sentence("Promise 24", "Returns the sum of all durations, converted to double, divided by (the machines "
                + "times the greatest end), converted to double; 0.0 without a plan or without operations.");
        due("a new object", 0.0, new RepairShop().usage());
        due("no plan", 0.0, made(NO_PLAN).usage());
        due("the plan is gone", 0.0, made(ONE.and(x -> x.overtime(0, 0))).usage());
        due("a plan without jobs", 0.0, made(x -> x.plan(0)).usage());
        due("a plan without operations", 0.0, shop(5, "j9,0;p0;").usage());
        due("one operation", 1.0 / 5.0, shop(5, "j9,0;o00,1;p0;").usage());
        due("a fraction", 7.0 / 21.0, shop(3, "j9,0;o00,4;o01,3;p0;").usage());
        due("all that there is room for", 600.0 / 1800.0, made(full(3, 0)).usage());
        due("the last time", 1.0 / 5000.0, made(by(5, "j1,0;o00,1;p0;d0,0,1;").and(x -> x.replan(999, 0))).usage());
    }
}
