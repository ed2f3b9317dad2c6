/** Long runs of calls, made up by a counter that is fixed, on the program and on the model: all answers agree. */
public final class ModelTest {
    private static final int RUNS = 600;
    private static final int CALLS = 512;
    private static final String[] ORDERS = {"j1,10;", "j9,0;", "j05,3;", "j3,025;", "j2,999;", "o00,5;", "o11,20;",
        "o22,07;", "o04,1;", "o30,12;", "o41,3;", "o50,9;", "d0,5,10;", "d1,20,50;", "d2,500,1;", "d4,0,3;",
        "d0,010,05;", "p0;", "p1;", "p2;", "p3;"};
    private static final String SIGNS = "jodp0123456789,;; x";
    private static final int[] ODD = {Integer.MIN_VALUE, -1, 0, 1, 2, 3, 4, 5, 6, 9, 10, 20, 21, 50, 51, 99, 100, 127,
        128, 500, 501, 999, 1000, Integer.MAX_VALUE};

    private static long seed;

    public static void main(String[] args) {
        for (int run = 0; run < RUNS; run++) {
            seed = 7919L * run + 1;
            run(run);
        }
        Checks.close("ModelTest");
    }

    /** 0 to below the bound. */
    private static int some(int bound) {
        seed = seed * 6364136223846793005L + 1442695040888963407L;
        return (int) ((seed >>> 33) % bound);
    }

    /** Nearly always from least to most. */
    private static int near(int least, int most) {
        return some(40) == 0 ? ODD[some(ODD.length)] : least + some(most - least + 1);
    }

    private static void run(int run) {
        RepairShop shop = new RepairShop();
        Model model = new Model();
        int grown = some(3);
        int calls = 0;
        if (grown > 0) {
            calls += both(run, calls, shop, model, 0, 2 + some(4), 0, 0);
        }
        int size = grown == 2 ? 34 : 12;
        while (calls < CALLS) {
            int kind = calls < size ? 1 + some(2) + (some(4) == 0 ? 0 : 1) : some(34);
            if (kind >= 30 || kind == 24) {
                calls += text(run, calls, shop, model);
            } else if (kind == 23) {
                calls += thereAndBack(run, calls, shop, model);
            } else {
                calls += one(run, calls, shop, model, Math.min(kind, 29));
            }
        }
    }

    /** Arguments that mostly fit: times as they come in plans, durations and weights of all sizes. */
    private static int one(int run, int calls, RepairShop shop, Model model, int kind) {
        int jobs = Math.max(0, shop.value(1) - 1);
        int machines = shop.value(0) - 1;
        int time = some(3) == 0 ? near(0, 999) : near(0, 60);
        switch (kind) {
            case 0:
                return some(12) == 0 ? both(run, calls, shop, model, 0, near(2, 5), 0, 0) : 0;
            case 1:
                return both(run, calls, shop, model, 1, near(1, 9), some(2) == 0 ? near(0, 60) : near(0, 999), 0);
            case 2:
            case 3:
                return both(run, calls, shop, model, 2, near(0, jobs), near(0, machines), near(1, 20));
            case 4:
            case 5:
                return both(run, calls, shop, model, 3, near(0, machines), some(3) == 0 ? near(0, 500) : near(0, 70),
                        some(2) == 0 ? near(1, 50) : near(1, 9));
            case 6:
            case 7:
                return both(run, calls, shop, model, 5, near(0, 3), 0, 0);
            case 8:
            case 9:
                return both(run, calls, shop, model, 7, time, near(0, 3), 0);
            case 10:
                return both(run, calls, shop, model, 9, near(0, jobs), near(1, 99), 0);
            case 11:
                return some(2) == 0 ? both(run, calls, shop, model, 10, near(0, jobs), near(0, 3), 0) : 0;
            case 12:
                return both(run, calls, shop, model, 11, near(0, jobs), near(0, 5), 0);
            case 13:
                return both(run, calls, shop, model, 12, near(0, jobs), near(0, 3), near(0, 4));
            case 14:
                return both(run, calls, shop, model, 13, near(0, 5), near(0, 2), 0);
            case 15:
                return both(run, calls, shop, model, 14, near(0, 9), 0, 0);
            case 16:
            case 17:
                return both(run, calls, shop, model, 16, near(0, machines), near(0, 12), 0);
            case 18:
                return both(run, calls, shop, model, 17, near(0, 3), 0, 0);
            case 19:
            case 20:
                return both(run, calls, shop, model, 20, time, 0, 0);
            case 21:
                return both(run, calls, shop, model, 21, near(0, 3), 0, 0);
            case 22:
                return both(run, calls, shop, model, 26 + some(2), 0, 0, 0);
            default:
                int[] plain = {4, 6, 6, 8, 15, 18, 19, 22};
                return both(run, calls, shop, model, plain[some(plain.length)], 0, 0, 0);
        }
    }

    /** Up to four calls that write over what was there, and mostly as many undos. */
    private static int thereAndBack(int run, int calls, RepairShop shop, Model model) {
        int made = 0;
        int first = some(4);
        int count = 2 + some(3);
        for (int call = 0; call < count; call++) {
            int kind = first == 0 ? call : some(4) == 0 ? 10 : 4 - some(2);
            int jobs = Math.max(0, shop.value(1) - 1);
            int machines = shop.value(0) - 1;
            int a = kind == 0 ? near(2, 5) : kind == 1 ? near(1, 9) : kind == 3 ? some(machines + 1) : some(jobs + 1);
            int b = kind == 2 ? some(machines + 1) : kind == 10 ? 0 : some(60);
            made += both(run, calls + made, shop, model, kind, a, b, 1 + some(20));
        }
        for (int call = some(5) == 0 ? 1 : 0; call < count; call++) {
            made += both(run, calls + made, shop, model, 26, 0, 0, 0);
        }
        return made;
    }

    /** Some orders, now and then with a sign changed, dropped or put in, and what comes of them. */
    private static int text(int run, int calls, RepairShop shop, Model model) {
        StringBuilder text = new StringBuilder();
        for (int orders = some(6); orders > 0; orders--) {
            text.append(ORDERS[some(ORDERS.length)]);
        }
        for (int changes = some(3); changes > 0 && text.length() > 0; changes--) {
            int at = some(text.length());
            String sign = String.valueOf(SIGNS.charAt(some(SIGNS.length())));
            int from = at + some(2);
            text.replace(at, from, some(3) == 0 ? "" : sign);
        }
        int made = 0;
        for (int at = 0; at < text.length(); at++) {
            made += both(run, calls + made, shop, model, 23, text.charAt(at), 0, 0);
        }
        made += both(run, calls + made, shop, model, 25, 0, 0, 0);
        if (some(4) == 0) {
            made += both(run, calls + made, shop, model, 25, 0, 0, 0);
        }
        if (some(6) != 0) {
            made += both(run, calls + made, shop, model, 24, 0, 0, 0);
        }
        if (some(20) == 0) {
            made += both(run, calls + made, shop, model, 23, near(0, 127), 0, 0);
        }
        return made;
    }

    /** One call on both, and the digests after it; answers the one call that it is. */
    private static int both(int run, int calls, RepairShop shop, Model model, int kind, int a, int b, int c) {
        String name = "run " + run + ", call " + calls + ", kind " + kind + "(" + a + ", " + b + ", " + c + ")";
        Checks.due(name, answer(() -> onModel(model, kind, a, b, c)), answer(() -> onShop(shop, kind, a, b, c)));
        Checks.due(name + ": the digest", model.digest(), shop.digest());
        return 1;
    }

    private static Object answer(java.util.function.Supplier<Object> call) {
        try {
            return call.get();
        } catch (RuntimeException thrown) {
            return "throws " + thrown.getClass().getSimpleName();
        }
    }

    private static Object onShop(RepairShop x, int kind, int a, int b, int c) {
        return switch (kind) {
            case 0 -> x.begin(a);
            case 1 -> x.addJob(a, b);
            case 2 -> x.addOperation(a, b, c);
            case 3 -> x.breakDown(a, b, c);
            case 4 -> x.repaired();
            case 5 -> x.plan(a);
            case 6 -> x.shift();
            case 7 -> x.replan(a, b);
            case 8 -> x.accept();
            case 9 -> x.bargain(a, b);
            case 10 -> x.overtime(a, b);
            case 11 -> x.job(a, b);
            case 12 -> x.operation(a, b, c);
            case 13 -> x.breakdown(a, b);
            case 14 -> x.value(a);
            case 15 -> x.meeting();
            case 16 -> x.onMachine(a, b);
            case 17 -> x.latenessBy(a);
            case 18 -> x.bestRule();
            case 19 -> x.latenessShifted();
            case 20 -> x.bestReplan(a);
            case 21 -> x.bestOvertime(a);
            case 22 -> x.usage();
            case 23 -> x.append(a);
            case 24 -> x.clearText();
            case 25 -> x.carryOut();
            case 26 -> x.undo();
            default -> x.digest();
        };
    }

    private static Object onModel(Model x, int kind, int a, int b, int c) {
        return switch (kind) {
            case 0 -> x.begin(a);
            case 1 -> x.addJob(a, b);
            case 2 -> x.addOperation(a, b, c);
            case 3 -> x.breakDown(a, b, c);
            case 4 -> x.repaired();
            case 5 -> x.plan(a);
            case 6 -> x.shift();
            case 7 -> x.replan(a, b);
            case 8 -> x.accept();
            case 9 -> x.bargain(a, b);
            case 10 -> x.overtime(a, b);
            case 11 -> x.job(a, b);
            case 12 -> x.operation(a, b, c);
            case 13 -> x.breakdown(a, b);
            case 14 -> x.value(a);
            case 15 -> x.meeting();
            case 16 -> x.onMachine(a, b);
            case 17 -> x.latenessBy(a);
            case 18 -> x.bestRule();
            case 19 -> x.latenessShifted();
            case 20 -> x.bestReplan(a);
            case 21 -> x.bestOvertime(a);
            case 22 -> x.usage();
            case 23 -> x.append(a);
            case 24 -> x.clearText();
            case 25 -> x.carryOut();
            case 26 -> x.undo();
            default -> x.digest();
        };
    }
}
