import java.util.ArrayList;
import java.util.List;
import java.util.function.ToLongFunction;

/**
 * The document once more, written as slowly and as literally as it can be: time goes by ones, and all orders are tried
 * whole. It has the calls of OneMachine and is held against it in RandomRunsTest.
 */
public final class NaiveMachine {
    private record Job(int length, int due, int weight, int release, int family) {
    }

    private record Piece(int kind, int whose, int start, int end) {
    }

    private List<Job> jobs = new ArrayList<>();
    private final int[] setup = new int[4];
    private List<Piece> plan = null;

    public int addJob(int length, int due, int weight, int release, int family) {
        Job job = checked(length, due, weight, release, family);
        if (jobs.size() == 10) {
            throw new IllegalStateException();
        }
        jobs.add(job);
        plan = null;
        return jobs.size() - 1;
    }

    public void changeJob(int job, int length, int due, int weight, int release, int family) {
        checkJob(job);
        jobs.set(job, checked(length, due, weight, release, family));
        plan = null;
    }

    public int removeJob(int job) {
        checkJob(job);
        jobs.remove(job);
        plan = null;
        return jobs.size();
    }

    public int setSetup(int family, int time) {
        check(family >= 0 && family < 4, new IndexOutOfBoundsException());
        check(time >= 0 && time <= 20, new IllegalArgumentException());
        int before = setup[family];
        setup[family] = time;
        plan = null;
        return before;
    }

    public int jobs() {
        return jobs.size();
    }

    public int planByDueDates() {
        checkSome();
        plan = inARow(byDue(), false);
        return maxLateness();
    }

    public int planFewestLate() {
        checkSome();
        List<Integer> taken = new ArrayList<>();
        List<Integer> dropped = new ArrayList<>();
        for (int job : byDue()) {
            taken.add(job);
            while (!taken.isEmpty() && sum(taken) > jobs.get(taken.get(taken.size() - 1)).due()) {
                Integer longest = taken.get(0);
                for (Integer one : taken) {
                    int more = jobs.get(one).length() - jobs.get(longest).length();
                    if (more > 0 || more == 0 && one > longest) {
                        longest = one;
                    }
                }
                taken.remove(longest);
                dropped.add(longest);
            }
        }
        taken.addAll(dropped);
        plan = inARow(taken, false);
        return dropped.size();
    }

    public int planByRatios() {
        checkSome();
        List<Integer> order = numbers();
        order.sort((a, b) -> {
            double first = (double) jobs.get(a).weight() / jobs.get(a).length();
            double second = (double) jobs.get(b).weight() / jobs.get(b).length();
            return first != second ? Double.compare(second, first) : Integer.compare(a, b);
        });
        plan = inARow(order, false);
        return weightedCompletions();
    }

    public int planLeastTardiness() {
        checkSome();
        plan = inARow(firstBest(false), false);
        return weightedTardiness();
    }

    public int planByFamilies() {
        checkSome();
        plan = inARow(firstBest(true), true);
        return maxLateness();
    }

    public int planPreemptiveByDates() {
        checkSome();
        plan = preemptive(byDue());
        return maxLateness();
    }

    public int planPreemptiveShortest() {
        checkSome();
        plan = preemptive(null);
        return completions();
    }

    public boolean hasPlan() {
        return plan != null;
    }

    public int pieces() {
        return plan == null ? 0 : plan.size();
    }

    public int kindOf(int piece) {
        return checkedPiece(piece).kind();
    }

    public int whoseIs(int piece) {
        return checkedPiece(piece).whose();
    }

    public int startOf(int piece) {
        return checkedPiece(piece).start();
    }

    public int endOf(int piece) {
        return checkedPiece(piece).end();
    }

    public int completion(int job) {
        checkJob(job);
        checkPlan();
        return ends(plan)[job];
    }

    public int lateness(int job) {
        checkJob(job);
        checkPlan();
        return ends(plan)[job] - jobs.get(job).due();
    }

    public int maxLateness() {
        checkPlan();
        return (int) greatestLateness(plan);
    }

    public int lateJobs() {
        checkPlan();
        int late = 0;
        for (int job : numbers()) {
            late += lateness(job) > 0 ? 1 : 0;
        }
        return late;
    }

    public int completions() {
        checkPlan();
        return (int) sumOfCompletions(plan);
    }

    public int weightedCompletions() {
        checkPlan();
        return (int) sumOfWeightedCompletions(plan);
    }

    public int weightedTardiness() {
        checkPlan();
        return (int) sumOfWeightedTardiness(plan);
    }

    public int leastLateness() {
        checkFew();
        return least(order -> greatestLateness(inARow(order, false)));
    }

    public int leastCompletions() {
        checkFew();
        return least(order -> sumOfWeightedCompletions(inARow(order, false)));
    }

    public int leastTardiness() {
        checkFew();
        return least(order -> sumOfWeightedTardiness(inARow(order, false)));
    }

    public int leastWithSetups() {
        checkFew();
        return least(order -> greatestLateness(inARow(order, true)));
    }

    public int leastPreemptiveLateness() {
        checkFew();
        return least(order -> greatestLateness(preemptive(order)));
    }

    public int leastPreemptiveCompletions() {
        checkFew();
        return least(order -> sumOfCompletions(preemptive(order)));
    }

    public boolean canBeOnTime(int set) {
        check(set >= 0, new IllegalArgumentException());
        for (int bit = jobs.size(); bit < 31; bit++) {
            check((set & 1 << bit) == 0, new IllegalArgumentException());
        }
        return onTime(set);
    }

    public int fewestLateBySets() {
        int most = 0;
        for (int set = 0; set < 1 << jobs.size(); set++) {
            if (onTime(set)) {
                most = Math.max(most, members(set).size());
            }
        }
        return jobs.size() - most;
    }

    public int windowBound(boolean releases) {
        checkSome();
        return window(releases)[0];
    }

    public int windowDue() {
        checkSome();
        return window(true)[1];
    }

    public int windowRelease() {
        checkSome();
        return window(true)[2];
    }

    private static void check(boolean holds, RuntimeException otherwise) {
        if (!holds) {
            throw otherwise;
        }
    }

    private static Job checked(int length, int due, int weight, int release, int family) {
        check(length >= 1 && length <= 30, new IllegalArgumentException());
        check(due >= 0 && due <= 300, new IllegalArgumentException());
        check(weight >= 1 && weight <= 20, new IllegalArgumentException());
        check(release >= 0 && release <= 100, new IllegalArgumentException());
        check(family >= 0 && family <= 3, new IllegalArgumentException());
        return new Job(length, due, weight, release, family);
    }

    private void checkJob(int job) {
        check(job >= 0 && job < jobs.size(), new IndexOutOfBoundsException());
    }

    private Piece checkedPiece(int piece) {
        check(piece >= 0 && piece < pieces(), new IndexOutOfBoundsException());
        return plan.get(piece);
    }

    private void checkPlan() {
        check(plan != null, new IllegalStateException());
    }

    private void checkSome() {
        check(jobs.size() > 0, new IllegalStateException());
    }

    private void checkFew() {
        check(jobs.size() > 0 && jobs.size() <= 7, new IllegalStateException());
    }

    private List<Integer> numbers() {
        return members((1 << jobs.size()) - 1);
    }

    private static List<Integer> members(int set) {
        List<Integer> members = new ArrayList<>();
        for (int job = 0; job < 10; job++) {
            if ((set & 1 << job) != 0) {
                members.add(job);
            }
        }
        return members;
    }

    private int sum(List<Integer> some) {
        int sum = 0;
        for (int job : some) {
            sum += jobs.get(job).length();
        }
        return sum;
    }

    private List<Integer> byDue() {
        List<Integer> order = numbers();
        order.sort((a, b) -> jobs.get(a).due() != jobs.get(b).due()
                ? jobs.get(a).due() - jobs.get(b).due() : a - b);
        return order;
    }

    private static void add(List<Piece> row, int kind, int whose, int time) {
        int start = row.isEmpty() ? 0 : row.get(row.size() - 1).end();
        if (time > 0) {
            row.add(new Piece(kind, whose, start, start + time));
        }
    }

    private List<Piece> inARow(List<Integer> order, boolean setups) {
        List<Piece> row = new ArrayList<>();
        int family = -1;
        for (int job : order) {
            if (setups && jobs.get(job).family() != family) {
                family = jobs.get(job).family();
                add(row, 1, family, setup[family]);
            }
            add(row, 0, job, jobs.get(job).length());
        }
        return row;
    }

    /** The plan of an order as priorities; without an order, of the shortest remaining length. */
    private List<Piece> preemptive(List<Integer> order) {
        int[] left = new int[jobs.size()];
        int all = 0;
        for (int job : numbers()) {
            left[job] = jobs.get(job).length();
            all += left[job];
        }
        List<Integer> worked = new ArrayList<>();
        for (int time = 0; all > 0; time++) {
            int chosen = -1;
            for (int job : order == null ? numbers() : order) {
                boolean open = jobs.get(job).release() <= time && left[job] > 0;
                if (open && (chosen < 0 || order == null && left[job] < left[chosen])) {
                    chosen = job;
                }
            }
            worked.add(chosen);
            if (chosen >= 0) {
                left[chosen]--;
                all--;
            }
        }
        return joined(worked);
    }

    private static List<Piece> joined(List<Integer> worked) {
        List<Piece> row = new ArrayList<>();
        int start = 0;
        for (int time = 1; time <= worked.size(); time++) {
            if (time == worked.size() || !worked.get(time).equals(worked.get(start))) {
                add(row, worked.get(start) < 0 ? 2 : 0, worked.get(start), time - start);
                start = time;
            }
        }
        return row;
    }

    private int[] ends(List<Piece> row) {
        int[] ends = new int[jobs.size()];
        for (Piece piece : row) {
            if (piece.kind() == 0) {
                ends[piece.whose()] = piece.end();
            }
        }
        return ends;
    }

    private long greatestLateness(List<Piece> row) {
        int[] ends = ends(row);
        long greatest = Long.MIN_VALUE;
        for (int job : numbers()) {
            greatest = Math.max(greatest, ends[job] - jobs.get(job).due());
        }
        return greatest;
    }

    private long sumOfCompletions(List<Piece> row) {
        long sum = 0;
        for (int end : ends(row)) {
            sum += end;
        }
        return sum;
    }

    private long sumOfWeightedCompletions(List<Piece> row) {
        int[] ends = ends(row);
        long sum = 0;
        for (int job : numbers()) {
            sum += (long) jobs.get(job).weight() * ends[job];
        }
        return sum;
    }

    private long sumOfWeightedTardiness(List<Piece> row) {
        int[] ends = ends(row);
        long sum = 0;
        for (int job : numbers()) {
            sum += (long) jobs.get(job).weight() * Math.max(0, ends[job] - jobs.get(job).due());
        }
        return sum;
    }

    private int least(ToLongFunction<List<Integer>> cost) {
        return (int) least(new ArrayList<>(), cost);
    }

    private long least(List<Integer> begun, ToLongFunction<List<Integer>> cost) {
        if (begun.size() == jobs.size()) {
            return cost.applyAsLong(begun);
        }
        long least = Long.MAX_VALUE;
        for (Integer job : numbers()) {
            if (!begun.contains(job)) {
                begun.add(job);
                least = Math.min(least, least(begun, cost));
                begun.remove(begun.size() - 1);
            }
        }
        return least;
    }

    private List<Integer> best;
    private long bestCost;

    /** Goes through the orders by their numbers, so that the first of several best ones stays. */
    private List<Integer> firstBest(boolean families) {
        best = null;
        bestCost = Long.MAX_VALUE;
        seekBest(new ArrayList<>(), families);
        return best;
    }

    private void seekBest(List<Integer> begun, boolean families) {
        List<Piece> row = inARow(begun, families);
        long cost = Long.MIN_VALUE;
        if (!begun.isEmpty()) {
            cost = families ? latenessOf(begun, row) : tardinessOf(begun, row);
        }
        if (cost >= bestCost) {
            return;
        }
        if (begun.size() == jobs.size()) {
            best = new ArrayList<>(begun);
            bestCost = cost;
            return;
        }
        for (Integer job : numbers()) {
            if (!begun.contains(job) && (!families || isFirstOfFamily(job, begun))) {
                begun.add(job);
                seekBest(begun, families);
                begun.remove(begun.size() - 1);
            }
        }
    }

    private boolean isFirstOfFamily(int job, List<Integer> begun) {
        for (Integer other : byDue()) {
            if (!begun.contains(other) && jobs.get(other).family() == jobs.get(job).family()) {
                return other == job;
            }
        }
        return false;
    }

    private long latenessOf(List<Integer> some, List<Piece> row) {
        int[] ends = ends(row);
        long greatest = Long.MIN_VALUE;
        for (int job : some) {
            greatest = Math.max(greatest, ends[job] - jobs.get(job).due());
        }
        return greatest;
    }

    private long tardinessOf(List<Integer> some, List<Piece> row) {
        int[] ends = ends(row);
        long sum = 0;
        for (int job : some) {
            sum += (long) jobs.get(job).weight() * Math.max(0, ends[job] - jobs.get(job).due());
        }
        return sum;
    }

    /** Whether some job can be the last one on time, and the others without it too. */
    private boolean onTime(int set) {
        List<Integer> some = members(set);
        for (int last : some) {
            if (sum(some) <= jobs.get(last).due() && onTime(set & ~(1 << last))) {
                return true;
            }
        }
        return some.isEmpty();
    }

    private int[] window(boolean releases) {
        int[] best = null;
        for (int due = 0; due <= 300; due++) {
            for (int release = 0; release <= 100; release++) {
                int inside = 0;
                boolean hasDue = false;
                boolean hasRelease = false;
                for (Job job : jobs) {
                    int released = releases ? job.release() : 0;
                    hasDue |= job.due() == due;
                    hasRelease |= released == release;
                    inside += released >= release && job.due() <= due ? job.length() : 0;
                }
                int bound = release + inside - due;
                if (hasDue && hasRelease && inside > 0 && (best == null || bound > best[0])) {
                    best = new int[] {bound, due, release};
                }
            }
        }
        return best;
    }
}
