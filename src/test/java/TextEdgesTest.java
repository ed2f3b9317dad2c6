/** The edges that the term "text" and promises 25 to 27 name. */
public final class TextEdgesTest extends Edges {
    private static final int ERROR = -10;
    private static final String DIGITS = "0123456789";

    public static void main(String[] args) {
        textLength();
        orders();
        jobOrder();
        operationOrder();
        breakdownOrder();
        planOrder();
        dueDates();
        durations();
        begins();
        lengths();
        noSpaces();
        zerosInFront();
        cannotStand();
        endsTooEarly();
        outOfRange();
        outOfRangeAtEnd();
        append();
        appendValue();
        appendReturns();
        appendThrowsArgument();
        appendThrowsState();
        clearText();
        clearTextReturns();
        carryOutUpTo();
        carryOutThrowing();
        carryOutKeepsText();
        carryOutUndone();
        carryOutReturns();
        carryOutReturnsPosition();
        close("TextEdgesTest");
    }

    private static final String P0_33 =
            "p0;p0;p0;p0;p0;p0;p0;p0;p0;p0;p0;p0;p0;p0;p0;p0;p0;p0;p0;p0;p0;p0;p0;p0;p0;p0;p0;p0;p0;p0;p0;p0;p0;";
    /** Thirty-two orders in a hundred bytes. */
    private static final String HUNDRED = "j1,001;" + P0_33.substring(6);

    private static Maker text(String text) {
        return x -> type(x, text);
    }

    /** The answer on a shop in which nothing is missing for one order of each kind. */
    private static int answer(String text) {
        return carryOut(shop(5, "j1,0;j1,0;j1,0;j1,0;j1,0;"), text);
    }

    private static void dueError(String text, int position) {
        RepairShop x = shop(5, "j1,0;j1,0;j1,0;j1,0;j1,0;");
        String before = allOf(x);
        due(text, ERROR - position, carryOut(x, text));
        due(text + ", nothing is changed", before, allOf(x));
        due(text + ", as a second order", ERROR - 3 - position, answer("p0;" + text));
    }

    private static void dueCarriedOut(String text) {
        due(text, 1, answer(text));
        due(text + ", as a second order", 2, answer("p0;" + text));
    }

    private static void textLength() {
        sentence("Terms, Text", "Text. The text has at most 100 bytes.");
        due("a hundred", 100, HUNDRED.length());
        due("a hundred bytes in order", 32, answer(HUNDRED));
        due("the last of them is wrong", ERROR - 99, answer(HUNDRED.substring(0, 99) + "x"));
        due("a hundred bytes, too few", ERROR - 100, answer(P0_33 + "p"));
        changesNothing("a byte more", "throws IllegalStateException", text(HUNDRED), y -> y.append('p'));
    }

    private static void orders() {
        sentence("Terms, Text", "It is a sequence of orders, each terminated by a semicolon:");
        due("none", 0, answer(""));
        due("one", 1, answer("p0;"));
        due("two", 2, answer("p0;p0;"));
        due("thirty-three", 33, answer(P0_33));
        dueError("p0", 2);
        dueError("p0p0;", 2);
        dueError("p0,p0;", 2);
        dueError(";", 0);
        dueError("p0;;", 3);
        rest("", "jodp", 0, 0);
        rest("p0;", "jodp", 3, 3);
    }

    /** After the text these bytes can stand; another digit is an error at the first position, other bytes at the
            second. */
    private static void rest(String text, String fine, int digit, int other) {
        for (char sign = 0; sign < 128; sign++) {
            String longer = text + sign;
            String told = text + "(" + (int) sign + ")";
            for (String before : new String[] {"", "p0;"}) {
                int got = answer(before + longer);
                int at = before.length();
                if (fine.indexOf(sign) < 0) {
                    due(told + " at " + at, ERROR - at - (DIGITS.indexOf(sign) >= 0 ? digit : other), got);
                } else if (sign == ';') {
                    due(told + " at " + at, 1 + at / 3, got);
                } else {
                    due(told + " ends too early, at " + at, ERROR - at - longer.length(), got);
                }
            }
        }
    }

    private static void rest(String text, String fine) {
        rest(text, fine, text.length(), text.length());
    }

    private static void jobOrder() {
        sentence("Terms, Text",
                "\"j\", a weight digit 1 to 9, a comma, and a due date of one to three digits, to add a job;");
        rest("j", "123456789");
        rest("j1", ",");
        rest("j9", ",");
        rest("j9,", DIGITS);
        rest("j9,0", DIGITS + ";");
        rest("j9,9", DIGITS + ";");
        rest("j9,00", DIGITS + ";");
        rest("j9,99", DIGITS + ";");
        rest("j9,000", ";");
        rest("j9,999", ";");
        for (int weight = 1; weight <= 9; weight++) {
            RepairShop x = new RepairShop();
            carryOut(x, "j" + weight + ",5;");
            due("jobs", 1, x.value(1));
            due("weight", weight, x.job(0, 0));
            due("due", 5, x.job(0, 1));
            due("operations", 0, x.job(0, 2));
        }
    }

    private static void operationOrder() {
        sentence("Terms, Text", "\"o\", a job digit 0 to 5, a machine digit 0 to 4, a comma, and a duration of one "
                + "or two digits, 1 to 20, to add an operation to a job;");
        rest("o", "012345");
        rest("o0", "01234");
        rest("o5", "01234");
        rest("o00", ",");
        rest("o44", ",");
        rest("o44,", "123456789", 4, 4);
        rest("o44,1", DIGITS + ";");
        rest("o44,01", ";");
        rest("o44,20", ";");
        for (int job = 0; job <= 5; job++) {
            for (int machine = 0; machine <= 4; machine++) {
                RepairShop x = shop(5, "j1,0;j1,0;j1,0;j1,0;j1,0;j1,0;");
                carryOut(x, "o" + job + machine + ",7;");
                due("operations of job " + job, 1, x.job(job, 2));
                due("machine", machine, x.operation(job, 0, 0));
                due("duration", 7, x.operation(job, 0, 1));
            }
        }
    }

    private static void breakdownOrder() {
        sentence("Terms, Text", "\"d\", a machine digit 0 to 4, a comma, a begin of one to three digits, 0 to 500, "
                + "a comma, and a length of one or two digits, 1 to 50, to add a breakdown;");
        rest("d", "01234");
        rest("d0", ",");
        rest("d4", ",");
        rest("d4,", DIGITS);
        rest("d4,0", DIGITS + ",");
        rest("d4,5", DIGITS + ",");
        rest("d4,00", DIGITS + ",");
        rest("d4,49", DIGITS + ",");
        rest("d4,000", ",");
        rest("d4,500", ",");
        rest("d4,500,", "123456789", 7, 7);
        rest("d4,0,4", DIGITS + ";");
        rest("d4,0,01", ";");
        rest("d4,0,50", ";");
        for (int machine = 0; machine <= 4; machine++) {
            RepairShop x = shop(5, "");
            carryOut(x, "d" + machine + ",8,9;");
            due("breakdowns", 1, x.value(3));
            due("machine, begin and length", machine + " 8 9",
                    x.breakdown(0, 0) + " " + x.breakdown(0, 1) + " " + x.breakdown(0, 2));
        }
    }

    private static void planOrder() {
        sentence("Terms, Text", "\"p\" and a rule digit 0 to 3, to plan.");
        rest("p", "0123");
        rest("p0", ";");
        rest("p3", ";");
        String[] starts = {"7 | 3 | 0", "0 | 7 | 3", "4 | 0 | 9", "5 10 | 0"};
        String[] orders = {"j1,9;o00,5;j1,9;o10,4;j1,9;o20,3;", "j1,7;o00,3;j1,9;o10,5;j1,8;o20,4;",
            "j2,9;o00,5;j3,9;o10,4;j1,9;o20,3;", "j1,9;o00,5;o01,1;j1,9;o10,5;"};
        for (int rule = 0; rule <= 3; rule++) {
            RepairShop x = shop(2, orders[rule]);
            carryOut(x, "p" + rule + ";");
            due("old plan by rule " + rule, starts[rule], starts(x, OLD));
            due("present plan by rule " + rule, starts[rule], starts(x, PRESENT));
        }
    }

    /** A number in all forms that it can have, up to so many digits. */
    private static String[] formsOf(int number, int digits) {
        String all = "000" + number;
        int least = ("" + number).length();
        String[] forms = new String[digits - least + 1];
        for (int form = 0; form < forms.length; form++) {
            forms[form] = all.substring(all.length() - least - form);
        }
        return forms;
    }

    private static void dueDates() {
        sentence("Terms, Text",
                "\"j\", a weight digit 1 to 9, a comma, and a due date of one to three digits, to add a job;");
        for (int due = 0; due <= 999; due++) {
            for (String form : formsOf(due, 3)) {
                RepairShop x = new RepairShop();
                due(form, 1, carryOut(x, "j1," + form + ";"));
                due(form, due, x.job(0, 1));
            }
        }
        dueError("j1,1000;", 6);
        dueError("j1,0000;", 6);
    }

    private static void durations() {
        sentence("Terms, Text", "\"o\", a job digit 0 to 5, a machine digit 0 to 4, a comma, and a duration of one "
                + "or two digits, 1 to 20, to add an operation to a job;");
        for (int duration = 0; duration <= 99; duration++) {
            for (String form : formsOf(duration, 2)) {
                if (duration < 1 || duration > 20) {
                    dueError("o00," + form + ";", 4);
                } else {
                    RepairShop x = shop(2, "j1,0;");
                    due(form, 1, carryOut(x, "o00," + form + ";"));
                    due(form, duration, x.operation(0, 0, 1));
                }
            }
        }
        dueError("o00,020;", 6);
        dueError("o00,100;", 6);
    }

    private static void begins() {
        sentence("Terms, Text", "\"d\", a machine digit 0 to 4, a comma, a begin of one to three digits, 0 to 500, "
                + "a comma, and a length of one or two digits, 1 to 50, to add a breakdown;");
        for (int begin = 0; begin <= 999; begin++) {
            for (String form : formsOf(begin, 3)) {
                if (begin > 500) {
                    dueError("d0," + form + ",1;", 3);
                } else {
                    RepairShop x = new RepairShop();
                    due(form, 1, carryOut(x, "d0," + form + ",1;"));
                    due(form, begin, x.breakdown(0, 1));
                }
            }
        }
        dueError("d0,0500,1;", 6);
        dueError("d0,1000,1;", 6);
    }

    private static void lengths() {
        sentence("Terms, Text", "\"d\", a machine digit 0 to 4, a comma, a begin of one to three digits, 0 to 500, "
                + "a comma, and a length of one or two digits, 1 to 50, to add a breakdown;");
        for (int length = 0; length <= 99; length++) {
            for (String form : formsOf(length, 2)) {
                if (length < 1 || length > 50) {
                    dueError("d0,500," + form + ";", 7);
                } else {
                    RepairShop x = new RepairShop();
                    due(form, 1, carryOut(x, "d0,500," + form + ";"));
                    due(form, length, x.breakdown(0, 2));
                }
            }
        }
        dueError("d0,500,050;", 9);
        dueError("d0,500,100;", 9);
    }

    private static void noSpaces() {
        sentence("Terms, Text", "There are no spaces; there may be no orders.");
        due("no orders", 0, answer(""));
        String[] orders = {"j1,5;", "o00,5;", "d0,5,5;", "p0;"};
        for (String order : orders) {
            dueCarriedOut(order);
            for (int at = 0; at <= order.length(); at++) {
                for (char space : new char[] {' ', '\t', '\n', '\r', 0}) {
                    dueError(order.substring(0, at) + space + order.substring(at), at);
                }
            }
        }
    }

    private static void zerosInFront() {
        sentence("Terms, Text", "Numbers can have zeros in front.");
        for (String order : new String[] {"j1,0;", "j1,00;", "j1,000;", "j1,005;", "j1,099;", "o00,01;", "o00,09;",
            "d0,000,01;", "d0,050,09;", "d0,005,1;"}) {
            dueCarriedOut(order);
        }
        dueError("j1,0005;", 6);
        dueError("o00,001;", 6);
        dueError("d0,0005,1;", 6);
        dueError("d0,5,001;", 7);
        dueError("j01,5;", 1);
        dueError("p00;", 2);
    }

    private static final String POSITION = "The syntax error position is the index of the first byte that cannot "
            + "stand where it stands (a digit too many, too), or the length of the text if the text ends too early.";

    private static void cannotStand() {
        sentence("Terms, Text", POSITION);
        dueError("x", 0);
        dueError("J1,1;", 0);
        dueError("j0,1;", 1);
        dueError("j:,1;", 1);
        dueError("j/,1;", 1);
        dueError("j1;1;", 2);
        dueError("j11,1;", 2);
        dueError("j1,,;", 3);
        dueError("j1,1,", 4);
        dueError("j1,1234;", 6);
        dueError("o6", 1);
        dueError("o05,1;", 2);
        dueError("o001,1;", 3);
        dueError("o00,1,", 5);
        dueError("o00,123;", 6);
        dueError("d5,1,1;", 1);
        dueError("d01,1,1;", 2);
        dueError("d0,1;", 4);
        dueError("d0,1234,1;", 6);
        dueError("d0,1,123;", 7);
        dueError("p4;", 1);
        dueError("p01;", 2);
        dueError("x;y;", 0);
    }

    private static void endsTooEarly() {
        sentence("Terms, Text", POSITION);
        String[] orders = {"j1,999;", "o00,20;", "d0,500,50;", "p0;"};
        for (String order : orders) {
            dueCarriedOut(order);
            for (int length = 1; length < order.length(); length++) {
                dueError(order.substring(0, length), length);
            }
        }
    }

    private static final String RANGE = "For a number that is out of its range it is the index of its first digit, "
            + "found when a byte that is no digit, whichever it is, or the end of the text, follows it.";

    private static void outOfRange() {
        sentence("Terms, Text", RANGE);
        rest("o44,0", "123456789", 4, 4);
        rest("o44,00", "", 6, 4);
        rest("o44,2", "0;", 4, 5);
        rest("o44,3", ";", 4, 5);
        rest("o44,9", ";", 4, 5);
        rest("o44,21", "", 6, 4);
        rest("o44,99", "", 6, 4);
        rest("d4,50", "0,", 3, 5);
        rest("d4,51", ",", 3, 5);
        rest("d4,99", ",", 3, 5);
        rest("d4,501", "", 6, 3);
        rest("d4,999", "", 6, 3);
        rest("d4,0,0", "123456789", 5, 5);
        rest("d4,0,00", "", 7, 5);
        rest("d4,0,5", "0;", 5, 6);
        rest("d4,0,6", ";", 5, 6);
        rest("d4,0,51", "", 7, 5);
        rest("d4,0,99", "", 7, 5);
        dueError("d4,501,51;", 3);
        dueError("o00,21;x", 4);
    }

    private static void outOfRangeAtEnd() {
        sentence("Terms, Text", RANGE);
        for (String number : new String[] {"0", "00", "21", "30", "99"}) {
            dueError("o00," + number, 4);
        }
        for (String number : new String[] {"501", "510", "999"}) {
            dueError("d0," + number, 3);
        }
        for (String number : new String[] {"0", "00", "51", "60", "99"}) {
            dueError("d0,1," + number, 5);
            dueError("d0,100," + number, 7);
        }
        dueError("o00,1", 5);
        dueError("o00,20", 6);
        dueError("d0,500", 6);
        dueError("d0,1,50", 7);
    }

    // ---- append

    private static void append() {
        sentence("Promise 25", "Appends a byte to the text.");
        RepairShop x = new RepairShop();
        due("no text", 0, x.carryOut());
        x.append('p');
        due("one byte", ERROR - 1, x.carryOut());
        x.append('0');
        due("two bytes", ERROR - 2, x.carryOut());
        x.append(';');
        due("an order", 1, x.carryOut());
        x.append('x');
        due("behind the others", ERROR - 3, x.carryOut());
        due("it saves no state", savedStates(made(NEW)), savedStates(made(text("p1;"))));
    }

    private static void appendValue() {
        sentence("Promise 25", "- `value`: the byte, 0 to 127");
        refused("-1", ARGUMENT, NEW, y -> y.append(-1));
        for (int value = 0; value <= 127; value++) {
            RepairShop x = new RepairShop();
            due("byte " + value, 1, x.append(value));
        }
        refused("128", ARGUMENT, NEW, y -> y.append(128));
    }

    private static void appendReturns() {
        sentence("Promise 25", "Returns the new length of the text.");
        RepairShop x = new RepairShop();
        for (int length = 1; length <= 100; length++) {
            due("length", length, x.append(length % 128));
        }
        x.clearText();
        due("length after clearText", 1, x.append(0));
    }

    private static void appendThrowsArgument() {
        sentence("Promise 25", "Throws `IllegalArgumentException` if value is out of range");
        for (int value : new int[] {LEAST, -128, -1, 128, 255, 256, MOST}) {
            refused("append(" + value + ")", ARGUMENT, NEW, y -> y.append(value));
            changesNothing("full, append(" + value + ")", "throws IllegalArgumentException", text(HUNDRED),
                    y -> y.append(value));
        }
    }

    private static void appendThrowsState() {
        sentence("Promise 25", "Throws `IllegalStateException` if the text has 100 bytes");
        for (int value : new int[] {0, 'p', 127}) {
            due("it has 99", 100, made(text(P0_33)).append(value));
            changesNothing("it has 100, append(" + value + ")", "throws IllegalStateException", text(HUNDRED),
                    y -> y.append(value));
        }
        due("it had 100", 1, made(text(HUNDRED).and(x -> x.clearText())).append('p'));
    }

    // ---- clearText

    private static void clearText() {
        sentence("Promise 26", "Empties the text.");
        for (String text : new String[] {"", "x", "p0;", P0_33, HUNDRED}) {
            RepairShop x = made(text(text));
            x.clearText();
            due("nothing is carried out", 0, x.carryOut());
            due("nor is anything planned", 0, x.value(4));
            type(x, "p1;");
            due("what is appended then is all", 1, x.carryOut());
        }
        Maker saved = by(2, "j1,0;").and(x -> x.plan(0));
        RepairShop x = made(saved);
        x.clearText();
        due("it saves no state", savedStates(made(saved)), savedStates(x));
    }

    private static void clearTextReturns() {
        sentence("Promise 26", "Returns the length that it had.");
        for (String text : new String[] {"", "x", "p0;", P0_33, HUNDRED}) {
            RepairShop x = made(text(text));
            due("length", text.length(), x.clearText());
            due("length then", 0, x.clearText());
        }
    }

    // ---- carryOut

    private static void carryOutUpTo() {
        sentence("Promise 27",
                "Carries out the orders of the text, up to the first one that would throw an exception (that one is "
                        + "not carried out).");
        RepairShop x = new RepairShop();
        due("no order", 0, carryOut(x, ""));
        due("values", "3 0 0 0 0 0 -1 -1 -1 -1", values(x));
        due("all orders", 4, carryOut(x, "j2,3;o02,5;d1,7,8;p0;"));
        due("values", "3 1 1 1 1 0 4 4 5 0", values(x));
        due("the first would throw", 0, carryOut(x, "o10,1;j1,1;p0;"));
        due("values", "3 1 1 1 1 0 4 4 5 0", values(x));
        due("the second would throw", 1, carryOut(x, "j1,1;o20,1;p0;"));
        due("values", "3 2 1 1 0 0 -1 -1 -1 -1", values(x));
        due("the last would throw", 2, carryOut(x, "p0;d0,1,1;d4,1,1;"));
        due("values", "3 2 1 2 1 0 4 4 5 0", values(x));
    }

    private static void dueStop(Maker maker, String throwing, String fine) {
        RepairShop x = made(maker);
        due("ahead of " + throwing, 1, carryOut(x, "p0;" + throwing + "j1,1;"));
        RepairShop twin = made(maker);
        twin.plan(0);
        due(throwing + " and what is behind it are not carried out", allOf(twin), allOf(x));
        due(fine + " instead", 2, carryOut(made(maker), "p0;" + fine));
    }

    private static void carryOutThrowing() {
        sentence("Promise 27",
                "Carries out the orders of the text, up to the first one that would throw an exception (that one is "
                        + "not carried out).");
        for (int machines = 2; machines <= 4; machines++) {
            Maker maker = by(machines, "j1,0;");
            dueStop(maker, "o0" + machines + ",1;", "o0" + (machines - 1) + ",1;");
            dueStop(maker, "d" + machines + ",1,1;", "d" + (machines - 1) + ",1,1;");
        }
        due("five machines", 2, answer("o04,1;d4,1,1;"));
        Maker some = NEW;
        for (int jobs = 1; jobs <= 5; jobs++) {
            some = some.and(x -> x.addJob(1, 0));
            dueStop(some, "o" + jobs + "0,1;", "o" + (jobs - 1) + "0,1;");
        }
        Maker five = some;
        Maker six = five.and(x -> x.addJob(1, 0));
        dueStop(six, "j1,1;", "o50,1;");
        due("a sixth job", 1, carryOut(made(five), "j1,1;"));
        dueStop(by(3, "j1,0;o00,1;o00,1;o00,1;o00,1;o00,1;j1,0;"), "o00,1;", "o10,1;");
        due("a fifth operation", 1, carryOut(made(by(3, "j1,0;o00,1;o00,1;o00,1;o00,1;")), "o00,1;"));
        dueStop(broken(6), "d0,0,1;", "p3;");
        due("a sixth breakdown", 1, carryOut(made(broken(5)), "d0,0,1;"));
    }

    private static void carryOutKeepsText() {
        sentence("Promise 27", "The text stays as it is.");
        for (String text : new String[] {"", "p0;", "o00,1;", "x", "j1,1;x", HUNDRED}) {
            RepairShop x = made(text(text));
            int first = x.carryOut();
            x.begin(3);
            due("the same again, " + text, first, x.carryOut());
            due("length, " + text, text.length(), x.clearText());
        }
        RepairShop x = made(text("j1,1;"));
        x.carryOut();
        type(x, "j2,2;");
        due("more of it", 2, x.carryOut());
        due("jobs", 3, x.value(1));
    }

    private static void carryOutUndone() {
        sentence("Promise 27", "Undoable (one saved state, also if no order is carried out), if there is no syntax "
                + "error.");
        undoable("no text, which changes nothing", by(2, "j1,0;"), y -> y.carryOut());
        undoable("one order", by(2, "j1,0;").and(text("p0;")), y -> y.carryOut());
        undoable("five orders", by(2, "").and(text("j1,0;o00,1;o00,2;d0,0,1;p0;")), y -> y.carryOut());
        undoable("all the orders that there is room for", by(2, "").and(text(HUNDRED)), y -> y.carryOut());
        undoable("the first would throw", by(2, "j1,0;").and(text("o10,1;p0;")), y -> y.carryOut());
        undoable("the second would throw", by(2, "j1,0;").and(text("p0;o10,1;")), y -> y.carryOut());
        for (String text : new String[] {"x", "p0;x", "p0", "o00,21;"}) {
            Maker maker = by(2, "j1,0;").and(text(text));
            RepairShop x = made(maker);
            x.carryOut();
            due("a syntax error saves no state, " + text, savedStates(made(maker)), savedStates(x));
        }
    }

    private static void carryOutReturns() {
        sentence("Promise 27", "Returns the number of orders that are carried out; -10 minus the syntax error "
                + "position if there is a syntax error (then nothing changes).");
        due("none", 0, answer(""));
        due("one", 1, answer("p0;"));
        due("none of one", 0, answer("o50,1;"));
        due("one of two", 1, answer("p0;o50,1;"));
        due("one of three", 1, answer("p0;o50,1;p0;"));
        due("all that there is room for", 33, answer(P0_33));
    }

    private static void carryOutReturnsPosition() {
        sentence("Promise 27", "Returns the number of orders that are carried out; -10 minus the syntax error "
                + "position if there is a syntax error (then nothing changes).");
        Maker planned = by(2, "j1,0;o00,1;p0;");
        changesNothing("position 0", -10, planned.and(text("x")), y -> y.carryOut());
        changesNothing("position 3, behind an order", -13, planned.and(text("p1;x")), y -> y.carryOut());
        changesNothing("position 11, behind one that would throw", -21, planned.and(text("o10,1;j1,1;,")),
                y -> y.carryOut());
        changesNothing("position 99", -109, planned.and(text(HUNDRED.substring(0, 99) + "x")), y -> y.carryOut());
        changesNothing("position 100", -110, planned.and(text(P0_33 + "p")), y -> y.carryOut());
    }
}
