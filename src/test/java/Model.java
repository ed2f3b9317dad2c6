import java.util.ArrayDeque;
import java.util.ArrayList;
import java.util.Comparator;
import java.util.Deque;
import java.util.List;

/** The document once more, in other words and as slow as it likes: every answer is worked out afresh. */
final class Model {
    private static final class Operation {
        int machine;
        int duration;
        int old;
        int present;

        int start(boolean fromOld) {
            return fromOld ? old : present;
        }
    }

    private static final class Job {
        int weight;
        int due;
        List<Operation> operations = new ArrayList<>();
    }

    private record Breakdown(int machine, int begin, int length) {
    }

    private static final class State {
        int machines = 3;
        List<Job> jobs = new ArrayList<>();
        List<Breakdown> breakdowns = new ArrayList<>();
        boolean planned;
        int costs;

        State copy() {
            State copy = new State();
            copy.machines = machines;
            copy.breakdowns.addAll(breakdowns);
            copy.planned = planned;
            copy.costs = costs;
            for (Job job : jobs) {
                Job other = new Job();
                other.weight = job.weight;
                other.due = job.due;
                for (Operation operation : job.operations) {
                    Operation twin = new Operation();
                    twin.machine = operation.machine;
                    twin.duration = operation.duration;
                    twin.old = operation.old;
                    twin.present = operation.present;
                    other.operations.add(twin);
                }
                copy.jobs.add(other);
            }
            return copy;
        }
    }

    private State now = new State();
    private final Deque<State> saved = new ArrayDeque<>();
    private String text = "";

    private static void argument(boolean fine) {
        if (!fine) {
            throw new IllegalArgumentException();
        }
    }

    private static void index(boolean fine) {
        if (!fine) {
            throw new IndexOutOfBoundsException();
        }
    }

    private static void state(boolean fine) {
        if (!fine) {
            throw new IllegalStateException();
        }
    }

    private void save() {
        saved.addLast(now.copy());
        if (saved.size() > 4) {
            saved.removeFirst();
        }
    }

    private void noPlans() {
        now.planned = false;
    }

    /** A call that must not save by itself: its state is saved only once it has not thrown. */
    private int saving(java.util.function.IntSupplier call) {
        State before = now.copy();
        int answer = call.getAsInt();
        State after = now;
        now = before;
        save();
        now = after;
        return answer;
    }

    // ---- shop

    int begin(int machines) {
        argument(machines >= 2 && machines <= 5);
        return saving(() -> {
            int jobs = now.jobs.size();
            now = new State();
            now.machines = machines;
            return jobs;
        });
    }

    int addJob(int weight, int due) {
        return saving(() -> newJob(weight, due));
    }

    private int newJob(int weight, int due) {
        argument(weight > 0 && weight < 10 && due >= 0 && due < 1000);
        state(now.jobs.size() < 6);
        Job job = new Job();
        job.weight = weight;
        job.due = due;
        now.jobs.add(job);
        noPlans();
        return now.jobs.size() - 1;
    }

    int addOperation(int job, int machine, int duration) {
        return saving(() -> newOperation(job, machine, duration));
    }

    private int newOperation(int job, int machine, int duration) {
        index(job >= 0 && job < now.jobs.size() && machine >= 0 && machine < now.machines);
        argument(duration > 0 && duration < 21);
        List<Operation> operations = now.jobs.get(job).operations;
        state(operations.size() < 5);
        Operation operation = new Operation();
        operation.machine = machine;
        operation.duration = duration;
        operations.add(operation);
        noPlans();
        return operations.size() - 1;
    }

    int breakDown(int machine, int begin, int length) {
        return saving(() -> newBreakdown(machine, begin, length));
    }

    private int newBreakdown(int machine, int begin, int length) {
        index(machine >= 0 && machine < now.machines);
        argument(begin >= 0 && begin <= 500 && length > 0 && length < 51);
        state(now.breakdowns.size() < 6);
        now.breakdowns.add(new Breakdown(machine, begin, length));
        return now.breakdowns.size() - 1;
    }

    int repaired() {
        state(!now.breakdowns.isEmpty());
        return saving(() -> {
            now.breakdowns.remove(now.breakdowns.size() - 1);
            return now.breakdowns.size();
        });
    }

    int plan(int rule) {
        return saving(() -> newPlan(rule));
    }

    private int newPlan(int rule) {
        argument(rule >= 0 && rule <= 3);
        fill(new ArrayList<>(), 0, rule);
        now.planned = true;
        return acceptAll() * 0 + lateness(false);
    }

    int shift() {
        state(now.planned);
        return saving(this::shiftAll);
    }

    /** Again and again, as the document says: from the old plan on, until nothing moves any more. */
    private int shiftAll() {
        List<Operation> all = all();
        for (Operation operation : all) {
            operation.present = operation.old;
        }
        boolean moved = true;
        while (moved) {
            moved = false;
            for (Job job : now.jobs) {
                for (int i = 0; i < job.operations.size(); i++) {
                    Operation operation = job.operations.get(i);
                    int start = operation.old;
                    if (i > 0) {
                        start = Math.max(start, end(job.operations.get(i - 1)));
                    }
                    for (Operation other : all) {
                        if (other.machine == operation.machine && other.old < operation.old) {
                            start = Math.max(start, end(other));
                        }
                    }
                    start = clear(operation, start);
                    moved |= start != operation.present;
                    operation.present = start;
                }
            }
        }
        return lateness(false);
    }

    int replan(int moment, int rule) {
        argument(moment >= 0 && moment <= 999 && rule >= 0 && rule <= 3);
        state(now.planned);
        return saving(() -> replanAll(moment, rule));
    }

    private int replanAll(int moment, int rule) {
        List<Operation> started = new ArrayList<>();
        for (Job job : now.jobs) {
            boolean keeps = true;
            for (Operation operation : job.operations) {
                keeps = keeps && operation.present < moment && !hits(operation, operation.present);
                if (keeps) {
                    started.add(operation);
                }
            }
        }
        fill(started, moment, rule);
        return lateness(false);
    }

    int accept() {
        state(now.planned);
        return saving(this::acceptAll);
    }

    private int acceptAll() {
        int different = 0;
        for (Operation operation : all()) {
            different += operation.old != operation.present ? 1 : 0;
            operation.old = operation.present;
        }
        return different;
    }

    int bargain(int job, int units) {
        index(job >= 0 && job < now.jobs.size());
        argument(units > 0 && units < 100);
        Job it = now.jobs.get(job);
        state(it.due + units < 1000);
        return saving(() -> {
            Job same = now.jobs.get(job);
            now.costs += units * same.weight;
            same.due = same.due + units;
            return same.due;
        });
    }

    int overtime(int job, int operation) {
        index(isOperation(job, operation));
        state(now.jobs.get(job).operations.get(operation).duration > 1);
        return saving(() -> {
            now.costs += 3;
            noPlans();
            return --now.jobs.get(job).operations.get(operation).duration;
        });
    }

    // ---- how plans are made

    private List<Operation> all() {
        List<Operation> all = new ArrayList<>();
        for (Job job : now.jobs) {
            all.addAll(job.operations);
        }
        return all;
    }

    private static int end(Operation operation) {
        return operation.present + operation.duration;
    }

    private boolean hits(Operation operation, int start) {
        for (Breakdown breakdown : now.breakdowns) {
            if (breakdown.machine() == operation.machine && start < breakdown.begin() + breakdown.length()
                    && start + operation.duration > breakdown.begin()) {
                return true;
            }
        }
        return false;
    }

    private int clear(Operation operation, int from) {
        int start = from;
        while (hits(operation, start)) {
            start++;
        }
        return start;
    }

    private record Choice(int start, int rank, int job, Operation operation) {
    }

    private void fill(List<Operation> started, int moment, int rule) {
        while (started.size() < all().size()) {
            List<Choice> choices = new ArrayList<>();
            for (int j = 0; j < now.jobs.size(); j++) {
                Job job = now.jobs.get(j);
                int done = 0;
                while (done < job.operations.size() && started.contains(job.operations.get(done))) {
                    done++;
                }
                if (done < job.operations.size()) {
                    Operation operation = job.operations.get(done);
                    int start = moment;
                    if (done > 0) {
                        start = Math.max(start, end(job.operations.get(done - 1)));
                    }
                    for (Operation other : started) {
                        if (other.machine == operation.machine) {
                            start = Math.max(start, end(other));
                        }
                    }
                    int[] ranks = {operation.duration, job.due, 9 - job.weight, job.operations.size() - done};
                    choices.add(new Choice(clear(operation, start), ranks[rule], j, operation));
                }
            }
            choices.sort(Comparator.comparingInt(Choice::start).thenComparingInt(Choice::rank)
                    .thenComparingInt(Choice::job));
            Choice first = choices.get(0);
            first.operation().present = first.start();
            started.add(first.operation());
        }
    }

    private int lateness(boolean fromOld) {
        int sum = 0;
        for (Job job : now.jobs) {
            sum += job.weight * lateness(job, fromOld);
        }
        return sum;
    }

    private static int lateness(Job job, boolean fromOld) {
        if (job.operations.isEmpty()) {
            return 0;
        }
        Operation last = job.operations.get(job.operations.size() - 1);
        return Math.max(0, last.start(fromOld) + last.duration - job.due);
    }

    // ---- values

    private boolean isOperation(int job, int operation) {
        return job >= 0 && job < now.jobs.size() && operation >= 0
                && operation < now.jobs.get(job).operations.size();
    }

    int job(int job, int what) {
        index(job >= 0 && job < now.jobs.size());
        argument(what >= 0 && what < 6);
        Job it = now.jobs.get(job);
        int count = it.operations.size();
        int sum = it.operations.stream().mapToInt(operation -> operation.duration).sum();
        int end = count == 0 || !now.planned ? -1 : end(it.operations.get(count - 1));
        int late = now.planned ? lateness(it, false) : -1;
        return new int[] {it.weight, it.due, count, sum, end, late}[what];
    }

    int operation(int job, int operation, int what) {
        index(isOperation(job, operation));
        argument(what >= 0 && what < 5);
        Operation it = now.jobs.get(job).operations.get(operation);
        if (what >= 2 && !now.planned) {
            return -1;
        }
        return new int[] {it.machine, it.duration, it.old, it.present, hits(it, it.present) ? 1 : 0}[what];
    }

    int breakdown(int breakdown, int what) {
        index(breakdown >= 0 && breakdown < now.breakdowns.size());
        argument(what >= 0 && what < 3);
        Breakdown it = now.breakdowns.get(breakdown);
        return new int[] {it.machine(), it.begin(), it.length()}[what];
    }

    int value(int what) {
        argument(what >= 0 && what < 10);
        if (what >= 6 && !now.planned) {
            return -1;
        }
        int greatest = all().stream().mapToInt(Model::end).max().orElse(0);
        int hit = (int) all().stream().filter(operation -> hits(operation, operation.present)).count();
        return new int[] {now.machines, now.jobs.size(), all().size(), now.breakdowns.size(), now.planned ? 1 : 0,
            now.costs, lateness(true), lateness(false), greatest, hit}[what];
    }

    int meeting() {
        return !now.planned ? -1 : all().stream().filter(operation -> operation.old != operation.present)
                .mapToInt(operation -> operation.old + 1).max().orElse(0);
    }

    int onMachine(int machine, int place) {
        index(machine >= 0 && machine < now.machines && place >= 0);
        if (!now.planned) {
            return -1;
        }
        List<int[]> there = new ArrayList<>();
        for (int j = 0; j < now.jobs.size(); j++) {
            for (int o = 0; o < now.jobs.get(j).operations.size(); o++) {
                Operation operation = now.jobs.get(j).operations.get(o);
                if (operation.machine == machine) {
                    there.add(new int[] {operation.present, 10 * j + o});
                }
            }
        }
        there.sort(Comparator.comparingInt(pair -> pair[0]));
        return place < there.size() ? there.get(place)[1] : -1;
    }

    // ---- what if: the call is made on a copy of the state

    private int trying(java.util.function.IntSupplier call) {
        State before = now;
        now = before.copy();
        int answer = call.getAsInt();
        now = before;
        return answer;
    }

    int latenessBy(int rule) {
        argument(rule >= 0 && rule < 4);
        return trying(() -> newPlan(rule));
    }

    int bestRule() {
        int best = 3;
        for (int rule = 2; rule >= 0; rule--) {
            best = latenessBy(rule) <= latenessBy(best) ? rule : best;
        }
        return best;
    }

    int latenessShifted() {
        return now.planned ? trying(this::shiftAll) : -1;
    }

    int bestReplan(int moment) {
        argument(moment >= 0 && moment < 1000);
        if (!now.planned) {
            return -1;
        }
        int best = Integer.MAX_VALUE;
        int answer = -1;
        for (int rule = 0; rule < 4; rule++) {
            int same = rule;
            int lateness = trying(() -> replanAll(moment, same));
            if (lateness < best) {
                best = lateness;
                answer = 1000000 * rule + Math.min(999999, lateness);
            }
        }
        return answer;
    }

    int bestOvertime(int rule) {
        int best = latenessBy(rule);
        int answer = -1;
        for (int code = 0; code < 60; code++) {
            int job = code / 10;
            int operation = code % 10;
            if (isOperation(job, operation) && operation(job, operation, 1) > 1) {
                int lateness = trying(() -> {
                    now.jobs.get(job).operations.get(operation).duration--;
                    return newPlan(rule);
                });
                if (lateness < best) {
                    best = lateness;
                    answer = code;
                }
            }
        }
        return answer;
    }

    double usage() {
        if (!now.planned || all().isEmpty()) {
            return 0.0;
        }
        int sum = all().stream().mapToInt(operation -> operation.duration).sum();
        return (double) sum / (double) (now.machines * value(8));
    }

    // ---- text

    int append(int value) {
        argument(value >= 0 && value < 128);
        state(text.length() < 100);
        text += (char) value;
        return text.length();
    }

    int clearText() {
        int length = text.length();
        text = "";
        return length;
    }

    int carryOut() {
        int position = errorPosition();
        if (position >= 0) {
            return -10 - position;
        }
        save();
        int done = 0;
        for (String order : text.isEmpty() ? new String[0] : text.split(";")) {
            try {
                carryOut(order);
            } catch (IllegalStateException | IndexOutOfBoundsException stopped) {
                return done;
            }
            done++;
        }
        return done;
    }

    private void carryOut(String order) {
        String[] parts = order.substring(1).split(",");
        int[] n = new int[parts.length];
        for (int i = 0; i < parts.length; i++) {
            n[i] = Integer.parseInt(parts[i]);
        }
        switch (order.charAt(0)) {
            case 'j' -> newJob(n[0], n[1]);
            case 'o' -> newOperation(parts[0].charAt(0) - '0', parts[0].charAt(1) - '0', n[1]);
            case 'd' -> newBreakdown(n[0], n[1], n[2]);
            default -> newPlan(n[0]);
        }
    }

    /** A picture of each order: [ab] a digit from a to b, (k:a:b) a number of up to k digits from a to b. */
    private static final String[] PICTURES = {"j[19],(3:0:999);", "o[05][04],(2:1:20);",
        "d[04],(3:0:500),(2:1:50);", "p[03];"};

    /** -1 if there is no error. */
    private int errorPosition() {
        int at = 0;
        while (at < text.length()) {
            String picture = null;
            for (String one : PICTURES) {
                picture = one.charAt(0) == text.charAt(at) ? one : picture;
            }
            if (picture == null) {
                return at;
            }
            int seen = 0;
            while (seen < picture.length()) {
                char sign = picture.charAt(seen);
                if (sign == '(') {
                    int close = picture.indexOf(')', seen);
                    String[] limits = picture.substring(seen + 1, close).split(":");
                    String digits = text.substring(at).replaceFirst("(?s)[^0-9].*", "");
                    int most = Integer.parseInt(limits[0]);
                    if (digits.length() > most) {
                        return at + most;
                    }
                    if (digits.isEmpty()) {
                        return at;
                    }
                    int number = Integer.parseInt(digits);
                    if (number < Integer.parseInt(limits[1]) || number > Integer.parseInt(limits[2])) {
                        return at;
                    }
                    at += digits.length();
                    seen = close + 1;
                } else {
                    String these = sign == '['
                            ? "[" + picture.charAt(seen + 1) + "-" + picture.charAt(seen + 2) + "]" : "" + sign;
                    if (at >= text.length() || !text.substring(at, at + 1).matches(these)) {
                        return at;
                    }
                    at++;
                    seen += sign == '[' ? 4 : 1;
                }
            }
        }
        return -1;
    }

    // ---- state

    int undo() {
        state(!saved.isEmpty());
        now = saved.removeLast();
        return saved.size();
    }

    long digest() {
        List<Integer> values = new ArrayList<>();
        values.add(text.length());
        for (int what = 0; what < 10; what++) {
            values.add(value(what));
        }
        for (int j = 0; j < now.jobs.size(); j++) {
            for (int what = 0; what < 6; what++) {
                values.add(job(j, what));
            }
            for (int o = 0; o < now.jobs.get(j).operations.size(); o++) {
                for (int what = 0; what < 5; what++) {
                    values.add(operation(j, o, what));
                }
            }
        }
        for (int b = 0; b < now.breakdowns.size(); b++) {
            for (int what = 0; what < 3; what++) {
                values.add(breakdown(b, what));
            }
        }
        values.add(meeting());
        values.add(latenessShifted());
        values.add(saved.size());
        long h = 3719;
        for (int v : values) {
            h = 31 * h + v;
        }
        return h;
    }
}
