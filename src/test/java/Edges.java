import java.util.ArrayList;
import java.util.List;

/**
 * The ground of the tests of edges. Such a test says which sentence of ../shared/DOC.md it tests, and in which part;
 * at the end no sentence of the parts that belong to it may be left over.
 */
abstract class Edges extends Bench {
    /** Makes a shop out of a new object. */
    interface Maker {
        void make(RepairShop x);

        default Maker and(Maker next) {
            return x -> {
                make(x);
                next.make(x);
            };
        }
    }

    static final Maker NEW = x -> { };
    static final int MOST_SAVED = 4;

    private static final Document DOCUMENT = new Document();
    private static String label = "";
    private static int checks;

    /** The checks from here on are for this sentence. */
    static void sentence(String part, String sentence) {
        endSentence();
        label = part + ", \"" + sentence + "\"";
        Checks.holds(label + " stands in the document", DOCUMENT.claim(part, sentence));
    }

    private static void endSentence() {
        Checks.holds(label + " has checks", label.isEmpty() || checks > 0);
        checks = 0;
    }

    /** A sentence that names no boundary case of its own. */
    static void noEdge(String part, String sentence) {
        Checks.holds(part + ", \"" + sentence + "\" stands in the document", DOCUMENT.claim(part, sentence));
    }

    static void due(String what, Object want, Object got) {
        checks++;
        Checks.due(label + ": " + what, want, got);
    }

    /** To be called last. */
    static void close(String test) {
        endSentence();
        for (String part : DOCUMENT.parts()) {
            Checks.holds(part + " belongs to a test", !testOf(part).isEmpty());
            if (testOf(part).equals(test)) {
                Checks.due("what no test claims of " + part, "", DOCUMENT.unclaimed(part));
            }
        }
        Checks.close(test);
    }

    /** The test that a part of the document belongs to; "" for a part that is new to the tests. */
    private static String testOf(String part) {
        switch (part) {
            case "RepairShop":
            case "The public face":
            case "Not promised":
                return "FaceTest";
            case "Terms, Text":
                return "TextEdgesTest";
            case "Terms, Undo":
            case "Terms, Exceptions":
                return "StateEdgesTest";
            default:
                break;
        }
        if (part.equals("What it is") || part.startsWith("Terms")) {
            return "TermsEdgesTest";
        }
        return part.matches("Promise \\d+") ? testOfPromise(Integer.parseInt(part.replaceFirst("Promise ", ""))) : "";
    }

    private static String testOfPromise(int promise) {
        int[] last = {6, 12, 18, 24, 27, 29};
        String[] tests = {"ShopEdgesTest", "PlanEdgesTest", "ValuesEdgesTest", "WhatIfEdgesTest", "TextEdgesTest",
            "StateEdgesTest"};
        for (int i = 0; i < last.length; i++) {
            if (promise <= last[i]) {
                return tests[i];
            }
        }
        return "";
    }

    // ---- shops

    /** A shop by orders, with as few saved states as can be. */
    static Maker by(int machines, String orders) {
        return x -> {
            if (x.value(0) != machines) {
                x.begin(machines);
            }
            if (!orders.isEmpty()) {
                giveOrders(x, orders);
            }
        };
    }

    /** Six jobs of five operations of duration 20 on one machine, planned by rule 0: they start at 0, 20, .. 580. */
    static Maker full(int machines, int machine) {
        return by(machines, "").and(x -> {
            for (int job = 0; job < 6; job++) {
                x.addJob(9, 0);
                for (int operation = 0; operation < 5; operation++) {
                    x.addOperation(job, machine, 20);
                }
            }
            x.plan(0);
        });
    }

    /** On machine 0; job 0 has one operation, job 1 has five: they start at 0 | 1, 2, 3, 4 and 5. */
    static final Maker UNEVEN = by(2, "j1,0;o00,1;j1,1;o10,1;o10,1;o10,1;o10,1;o10,1;p1;");

    /** So many breakdowns far from every plan, each of its own begin. */
    static Maker broken(int breakdowns) {
        return x -> {
            for (int breakdown = 0; breakdown < breakdowns; breakdown++) {
                x.breakDown(0, 490 + breakdown, 1);
            }
        };
    }

    static RepairShop made(Maker maker) {
        RepairShop x = new RepairShop();
        maker.make(x);
        return x;
    }

    /** Out of an object that is as new but for so many saved states, all of them different. */
    private static RepairShop made(Maker maker, int saved) {
        RepairShop x = new RepairShop();
        for (int state = 1; state <= saved; state++) {
            if (state < saved) {
                x.addJob(1, state);
            } else {
                x.begin(3);
            }
        }
        maker.make(x);
        return x;
    }

    // ---- refused calls

    /** The call throws just this exception, and nothing is changed by it, saved states and text included. */
    static void refused(String what, Class<? extends RuntimeException> want, Maker maker, Checks.Call call) {
        changesNothing(what, "throws " + want.getSimpleName(), maker.and(x -> type(x, "p1;")), call);
    }

    /** The call has this outcome, and nothing is changed by it, whether few states are saved or all of them. */
    static void changesNothing(String what, Object want, Maker maker, Checks.Call call) {
        for (int saved : new int[] {0, MOST_SAVED}) {
            RepairShop x = made(maker, saved);
            due(what, want, outcome(x, call));
            due(what + ", afterwards", historyOf(made(maker, saved)), historyOf(x));
        }
    }

    static Object outcome(RepairShop x, Checks.Call call) {
        try {
            return call.on(x);
        } catch (RuntimeException thrown) {
            return "throws " + thrown.getClass().getSimpleName();
        }
    }

    /** All that can be seen of a shop, its saved states and its text; it is used up by that. */
    private static List<Object> historyOf(RepairShop x) {
        List<Object> history = new ArrayList<>(digests(x));
        history.add(x.carryOut());
        history.add(x.digest());
        history.add(x.clearText());
        return history;
    }

    /** The digest of the state, and those of the saved states, the newest first. */
    private static List<Long> digests(RepairShop x) {
        List<Long> digests = new ArrayList<>();
        digests.add(x.digest());
        while (!outcome(x, y -> y.undo()).equals("throws IllegalStateException") && digests.size() < 9) {
            digests.add(x.digest());
        }
        return digests;
    }

    // ---- undoable calls

    /** The call saves the state from before it; four saved states are kept, and the oldest is dropped. */
    static void undoable(String what, Maker maker, Checks.Call call) {
        for (int saved = 0; saved <= MOST_SAVED; saved++) {
            RepairShop x = made(maker, saved);
            call.on(x);
            List<Long> before = states(made(maker, saved));
            due(what + ", saved states, after " + (before.size() - 1) + " were there",
                    before.subList(0, Math.min(before.size(), MOST_SAVED)), savedStates(x));
        }
    }

    /** The saved states, the newest first; they are used up by that. */
    static List<Long> savedStates(RepairShop x) {
        List<Long> states = states(x);
        return states.subList(1, states.size());
    }

    /** The digest's last value is the number of saved states: without it the same states have the same digest. */
    private static List<Long> states(RepairShop x) {
        List<Long> digests = digests(x);
        List<Long> states = new ArrayList<>();
        for (int state = 0; state < digests.size(); state++) {
            states.add(digests.get(state) - (digests.size() - 1 - state));
        }
        return states;
    }
}
