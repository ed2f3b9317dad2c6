import java.util.Objects;

/** Counts and prints the answers that are not the ones that are due. */
final class Checks {
    /** A call on a workshop. */
    interface Call {
        Object on(RepairShop shop);
    }

    private static int checked = 0;
    private static int wrong = 0;

    private Checks() {
    }

    static void due(String what, Object want, Object got) {
        checked++;
        if (!Objects.equals(want, got)) {
            wrong++;
            System.out.println(what + ": answered " + got + ", due is " + want);
        }
    }

    static void holds(String what, boolean holds) {
        due(what, true, holds);
    }

    /** The call throws just this exception, and nothing is changed by it. */
    static void dueThrow(String what, Class<? extends RuntimeException> want, RepairShop shop, Call call) {
        long before = shop.digest();
        String got;
        try {
            got = "an answer, " + call.on(shop);
        } catch (RuntimeException thrown) {
            got = thrown.getClass().getSimpleName();
        }
        due(what, want.getSimpleName(), got);
        due(what + ": the digest after it", before, shop.digest());
    }

    /** To be called last: tells the count and ends with exit code 1 if an answer was wrong. */
    static void close(String test) {
        System.out.println(test + ": " + checked + " checks, " + wrong + " wrong");
        if (wrong != 0 || checked == 0) {
            System.exit(1);
        }
    }
}
