/** What tests with answers worked out by hand work with: shops made by orders, and views of a whole shop. */
abstract class Bench {
    static final Class<IllegalArgumentException> ARGUMENT = IllegalArgumentException.class;
    static final Class<IllegalStateException> STATE = IllegalStateException.class;
    static final Class<IndexOutOfBoundsException> INDEX = IndexOutOfBoundsException.class;
    static final int NONE = RepairShop.NONE;
    static final int LEAST = Integer.MIN_VALUE;
    static final int MOST = Integer.MAX_VALUE;

    static final int OLD = 2;
    static final int PRESENT = 3;

    /** A workshop by orders, all of which are carried out; its text is empty then. */
    static RepairShop shop(int machines, String orders) {
        RepairShop x = new RepairShop();
        x.begin(machines);
        giveOrders(x, orders);
        return x;
    }

    static void giveOrders(RepairShop x, String orders) {
        int count = 0;
        for (char sign : orders.toCharArray()) {
            count += sign == ';' ? 1 : 0;
        }
        Checks.due("orders of " + orders, count, carryOut(x, orders));
        x.clearText();
    }

    static int carryOut(RepairShop x, String text) {
        x.clearText();
        type(x, text);
        return x.carryOut();
    }

    static void type(RepairShop x, String text) {
        for (char sign : text.toCharArray()) {
            x.append(sign);
        }
    }

    /** The starts of a plan, job by job. */
    static String starts(RepairShop x, int plan) {
        StringBuilder starts = new StringBuilder();
        for (int job = 0; job < x.value(1); job++) {
            starts.append(job == 0 ? "" : " | ");
            for (int operation = 0; operation < x.job(job, 2); operation++) {
                starts.append(operation == 0 ? "" : " ").append(x.operation(job, operation, plan));
            }
        }
        return starts.toString();
    }

    static String values(RepairShop x) {
        StringBuilder values = new StringBuilder();
        for (int what = 0; what <= 9; what++) {
            values.append(what == 0 ? "" : " ").append(x.value(what));
        }
        return values.toString();
    }

    static String allOf(RepairShop x) {
        StringBuilder all = new StringBuilder(values(x));
        for (int job = 0; job < x.value(1); job++) {
            for (int what = 0; what <= 5; what++) {
                all.append(' ').append(x.job(job, what));
            }
            for (int operation = 0; operation < x.job(job, 2); operation++) {
                for (int what = 0; what <= 4; what++) {
                    all.append(' ').append(x.operation(job, operation, what));
                }
            }
        }
        for (int breakdown = 0; breakdown < x.value(3); breakdown++) {
            for (int what = 0; what <= 2; what++) {
                all.append(' ').append(x.breakdown(breakdown, what));
            }
        }
        return all.toString();
    }
}
