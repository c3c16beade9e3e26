/** Rules for scheduling jobs on one machine, and second ways that each rule can be held against. */
public final class OneMachine {
    private static final int MOST_JOBS = 10;
    private static final int FAMILIES = 4;
    /** Of more jobs than these, the orders are too many to be tried. */
    private static final int MOST_TRIED = 7;
    /** Ahead of the first job stands no family: it counts as one more, so that every job is of another one. */
    private static final int NO_FAMILY = FAMILIES;
    /** A piece ends with a setup, with the last work on a job or with a release: two of these for a job in any plan. */
    private static final int MOST_PIECES = 2 * MOST_JOBS;
    /** Above every time and every sum that ten jobs can reach, and yet far from where an int wraps round. */
    private static final int FAR = 1000000;

    private static final int JOB = 0;
    private static final int SETUP = 1;
    private static final int IDLE = 2;
    private static final int NOBODY = -1;

    private final Jobs jobs = new Jobs();
    private final Plan plan = new Plan();
    private final Rules rules = new Rules();
    private final Preemption preemption = new Preemption();
    private final Orders orders = new Orders();
    private final Sets sets = new Sets();
    private final Window window = new Window();

    public OneMachine() {
    }

    // ---- jobs

    public int addJob(int length, int due, int weight, int release, int family)
            throws IllegalArgumentException, IllegalStateException {
        needJobInRange(length, due, weight, release, family);
        if (jobs.count >= MOST_JOBS) {
            throw new IllegalStateException("there are 10 jobs");
        }
        int job = jobs.count;
        jobs.count++;
        jobs.put(job, length, due, weight, release, family);
        plan.drop();
        return job;
    }

    public void changeJob(int job, int length, int due, int weight, int release, int family)
            throws IndexOutOfBoundsException, IllegalArgumentException {
        needJob(job);
        needJobInRange(length, due, weight, release, family);
        jobs.put(job, length, due, weight, release, family);
        plan.drop();
    }

    public int removeJob(int job) throws IndexOutOfBoundsException {
        needJob(job);
        jobs.remove(job);
        plan.drop();
        return jobs.count;
    }

    public int setSetup(int family, int time) throws IndexOutOfBoundsException, IllegalArgumentException {
        if (!isWithin(family, 0, FAMILIES - 1)) {
            throw new IndexOutOfBoundsException("there is no such family");
        }
        if (!isWithin(time, 0, 20)) {
            throw new IllegalArgumentException("time is out of range");
        }
        int before = jobs.setup[family];
        jobs.setup[family] = time;
        plan.drop();
        return before;
    }

    public int jobs() {
        return jobs.count;
    }

    // ---- rules

    public int planByDueDates() throws IllegalStateException {
        needSomeJob();
        rules.orderByDueDates(jobs);
        plan.follow(jobs, rules.order, false);
        return plan.total(jobs, Cost.GREATEST_LATENESS);
    }

    public int planFewestLate() throws IllegalStateException {
        needSomeJob();
        int dropped = rules.orderWithFewestLate(jobs);
        plan.follow(jobs, rules.order, false);
        return dropped;
    }

    public int planByRatios() throws IllegalStateException {
        needSomeJob();
        rules.orderByRatios(jobs);
        plan.follow(jobs, rules.order, false);
        return plan.total(jobs, Cost.WEIGHTED_COMPLETIONS);
    }

    public int planLeastTardiness() throws IllegalStateException {
        needSomeJob();
        rules.orderByTardiness(jobs);
        plan.follow(jobs, rules.order, false);
        return plan.total(jobs, Cost.WEIGHTED_TARDINESS);
    }

    public int planByFamilies() throws IllegalStateException {
        needSomeJob();
        rules.orderByFamilies(jobs);
        plan.follow(jobs, rules.order, true);
        return plan.total(jobs, Cost.GREATEST_LATENESS);
    }

    public int planPreemptiveByDates() throws IllegalStateException {
        needSomeJob();
        preemption.make(jobs, plan, false);
        return plan.total(jobs, Cost.GREATEST_LATENESS);
    }

    public int planPreemptiveShortest() throws IllegalStateException {
        needSomeJob();
        preemption.make(jobs, plan, true);
        return plan.total(jobs, Cost.COMPLETIONS);
    }

    // ---- the plan

    public boolean hasPlan() {
        return plan.made;
    }

    public int pieces() {
        return plan.count;
    }

    public int kindOf(int piece) throws IndexOutOfBoundsException {
        needPiece(piece);
        return plan.kind[piece];
    }

    public int whoseIs(int piece) throws IndexOutOfBoundsException {
        needPiece(piece);
        return plan.whose[piece];
    }

    public int startOf(int piece) throws IndexOutOfBoundsException {
        needPiece(piece);
        return piece == 0 ? 0 : plan.end[piece - 1];
    }

    public int endOf(int piece) throws IndexOutOfBoundsException {
        needPiece(piece);
        return plan.end[piece];
    }

    public int completion(int job) throws IndexOutOfBoundsException, IllegalStateException {
        needJob(job);
        needPlan();
        return plan.completion[job];
    }

    public int lateness(int job) throws IndexOutOfBoundsException, IllegalStateException {
        needJob(job);
        needPlan();
        return plan.completion[job] - jobs.due[job];
    }

    public int maxLateness() throws IllegalStateException {
        needPlan();
        return plan.total(jobs, Cost.GREATEST_LATENESS);
    }

    public int lateJobs() throws IllegalStateException {
        needPlan();
        return plan.total(jobs, Cost.LATE_JOBS);
    }

    public int completions() throws IllegalStateException {
        needPlan();
        return plan.total(jobs, Cost.COMPLETIONS);
    }

    public int weightedCompletions() throws IllegalStateException {
        needPlan();
        return plan.total(jobs, Cost.WEIGHTED_COMPLETIONS);
    }

    public int weightedTardiness() throws IllegalStateException {
        needPlan();
        return plan.total(jobs, Cost.WEIGHTED_TARDINESS);
    }

    // ---- second ways

    public int leastLateness() throws IllegalStateException {
        needFewJobs();
        return orders.least(jobs, Way.IN_A_ROW, Cost.GREATEST_LATENESS);
    }

    public int leastCompletions() throws IllegalStateException {
        needFewJobs();
        return orders.least(jobs, Way.IN_A_ROW, Cost.WEIGHTED_COMPLETIONS);
    }

    public int leastTardiness() throws IllegalStateException {
        needFewJobs();
        return orders.least(jobs, Way.IN_A_ROW, Cost.WEIGHTED_TARDINESS);
    }

    public int leastWithSetups() throws IllegalStateException {
        needFewJobs();
        return orders.least(jobs, Way.WITH_SETUPS, Cost.GREATEST_LATENESS);
    }

    public int leastPreemptiveLateness() throws IllegalStateException {
        needFewJobs();
        return orders.least(jobs, Way.AS_PRIORITIES, Cost.GREATEST_LATENESS);
    }

    public int leastPreemptiveCompletions() throws IllegalStateException {
        needFewJobs();
        return orders.least(jobs, Way.AS_PRIORITIES, Cost.COMPLETIONS);
    }

    public boolean canBeOnTime(int set) throws IllegalArgumentException {
        if (!isWithin(set, 0, jobs.all())) {
            throw new IllegalArgumentException("set is below 0 or has a bit of no job");
        }
        return sets.isOnTime(jobs, set);
    }

    public int fewestLateBySets() {
        return jobs.count - sets.mostOnTime(jobs);
    }

    public int windowBound(boolean releases) throws IllegalStateException {
        needSomeJob();
        window.findGreatest(jobs, releases);
        return window.bound;
    }

    public int windowDue() throws IllegalStateException {
        needSomeJob();
        window.findGreatest(jobs, true);
        return window.due;
    }

    public int windowRelease() throws IllegalStateException {
        needSomeJob();
        window.findGreatest(jobs, true);
        return window.release;
    }

    // ---- what a call needs

    private static boolean isWithin(int value, int low, int high) {
        return value >= low && value <= high;
    }

    private static void needJobInRange(int length, int due, int weight, int release, int family) {
        if (!isWithin(length, 1, 30) || !isWithin(due, 0, 300) || !isWithin(weight, 1, 20)
                || !isWithin(release, 0, 100) || !isWithin(family, 0, FAMILIES - 1)) {
            throw new IllegalArgumentException("length, due, weight, release or family is out of range");
        }
    }

    private void needJob(int job) {
        if (!isWithin(job, 0, jobs.count - 1)) {
            throw new IndexOutOfBoundsException("there is no such job");
        }
    }

    private void needPiece(int piece) {
        if (!isWithin(piece, 0, plan.count - 1)) {
            throw new IndexOutOfBoundsException("there is no such piece");
        }
    }

    private void needPlan() {
        if (!plan.made) {
            throw new IllegalStateException("there is no plan");
        }
    }

    private void needSomeJob() {
        if (jobs.count == 0) {
            throw new IllegalStateException("there is no job");
        }
    }

    private void needFewJobs() {
        if (!isWithin(jobs.count, 1, MOST_TRIED)) {
            throw new IllegalStateException("there is no job, or there are more than 7");
        }
    }

    /** What a row of completions costs, gathered job by job. */
    private enum Cost {
        GREATEST_LATENESS, LATE_JOBS, COMPLETIONS, WEIGHTED_COMPLETIONS, WEIGHTED_TARDINESS;

        int ofNoJob() {
            return this == GREATEST_LATENESS ? -FAR : 0;
        }

        /** The cost so far together with that of one more job. */
        int with(int soFar, Jobs jobs, int job, int completion) {
            int lateness = completion - jobs.due[job];
            switch (this) {
                case GREATEST_LATENESS:
                    return Math.max(soFar, lateness);
                case LATE_JOBS:
                    return lateness > 0 ? soFar + 1 : soFar;
                case COMPLETIONS:
                    return soFar + completion;
                case WEIGHTED_COMPLETIONS:
                    return soFar + jobs.weight[job] * completion;
                case WEIGHTED_TARDINESS:
                default:
                    return soFar + jobs.weight[job] * Math.max(0, lateness);
            }
        }
    }

    /** By what jobs are put into an order. */
    private enum Key {
        DUE, RELEASE, RATIO;

        /** Whether a job must stand behind another one; of two that tie, neither must. */
        boolean putsBehind(Jobs jobs, int job, int other) {
            switch (this) {
                case DUE:
                    return jobs.due[job] > jobs.due[other];
                case RELEASE:
                    return jobs.release[job] > jobs.release[other];
                case RATIO:
                default:
                    // The ratios are compared crosswise, since quotients would be rounded.
                    return jobs.weight[job] * jobs.length[other] < jobs.weight[other] * jobs.length[job];
            }
        }
    }

    /** What an order of jobs stands for. */
    private enum Way {
        IN_A_ROW, WITH_SETUPS, AS_PRIORITIES
    }

    /** The jobs by their numbers, and the setup times. Sets of jobs are bits. */
    private static final class Jobs {
        int count;
        final int[] length = new int[MOST_JOBS];
        final int[] due = new int[MOST_JOBS];
        final int[] weight = new int[MOST_JOBS];
        final int[] release = new int[MOST_JOBS];
        final int[] family = new int[MOST_JOBS];
        final int[] setup = new int[FAMILIES];

        void put(int job, int newLength, int newDue, int newWeight, int newRelease, int newFamily) {
            length[job] = newLength;
            due[job] = newDue;
            weight[job] = newWeight;
            release[job] = newRelease;
            family[job] = newFamily;
        }

        void remove(int job) {
            for (int above = job + 1; above < count; above++) {
                put(above - 1, length[above], due[above], weight[above], release[above], family[above]);
            }
            count--;
        }

        int all() {
            return (1 << count) - 1;
        }

        boolean isIn(int set, int job) {
            return (set >> job & 1) != 0;
        }

        int lengthOfSet(int set) {
            int sum = 0;
            for (int job = 0; job < count; job++) {
                if (isIn(set, job)) {
                    sum += length[job];
                }
            }
            return sum;
        }

        int setupBehind(int familyAhead, int job) {
            return family[job] == familyAhead ? 0 : setup[family[job]];
        }

        /** Fills a row with all jobs in order; those that tie stay by rising numbers, each put in behind the others. */
        void fillInOrder(int[] row, Key key) {
            for (int job = 0; job < count; job++) {
                int place = job;
                while (place > 0 && key.putsBehind(this, row[place - 1], job)) {
                    row[place] = row[place - 1];
                    place--;
                }
                row[place] = job;
            }
        }
    }

    /** The pieces of the plan, each from the end of the one ahead of it, and when each job is done. */
    private static final class Plan {
        boolean made;
        int count;
        final int[] kind = new int[MOST_PIECES];
        final int[] whose = new int[MOST_PIECES];
        final int[] end = new int[MOST_PIECES];
        final int[] completion = new int[MOST_JOBS];

        void drop() {
            made = false;
            count = 0;
        }

        void begin() {
            made = true;
            count = 0;
        }

        int now() {
            return count == 0 ? 0 : end[count - 1];
        }

        void addWork(int job, int time) {
            add(JOB, job, time);
            completion[job] = now();
        }

        void add(int newKind, int newWhose, int time) {
            int newEnd = now() + time;
            boolean goesOn = count > 0 && kind[count - 1] == newKind && whose[count - 1] == newWhose;
            if (goesOn) {
                end[count - 1] = newEnd;
            } else if (time > 0 && count < MOST_PIECES) {
                kind[count] = newKind;
                whose[count] = newWhose;
                end[count] = newEnd;
                count++;
            }
        }

        /** Makes the plan with the jobs one after the other, by an order of all of them. */
        void follow(Jobs jobs, int[] order, boolean withSetups) {
            begin();
            int family = NO_FAMILY;
            for (int place = 0; place < jobs.count; place++) {
                int job = order[place];
                if (withSetups) {
                    add(SETUP, jobs.family[job], jobs.setupBehind(family, job));
                    family = jobs.family[job];
                }
                addWork(job, jobs.length[job]);
            }
        }

        int total(Jobs jobs, Cost cost) {
            int sum = cost.ofNoJob();
            for (int job = 0; job < jobs.count; job++) {
                sum = cost.with(sum, jobs, job, completion[job]);
            }
            return sum;
        }
    }

    /** The rules without preemption: each puts all jobs into an order. */
    private static final class Rules {
        final int[] order = new int[MOST_JOBS];
        private final int[] byDue = new int[MOST_JOBS];
        private final int[] dropped = new int[MOST_JOBS];
        /** For each job, those of its family that must be done ahead of it. */
        private final int[] mustBeDone = new int[MOST_JOBS];
        /** The least cost of the jobs still to come, by the set of those done and, with families, by the last one. */
        private final int[] rest = new int[(1 << MOST_JOBS) * (FAMILIES + 1)];

        void orderByDueDates(Jobs jobs) {
            jobs.fillInOrder(order, Key.DUE);
        }

        void orderByRatios(Jobs jobs) {
            jobs.fillInOrder(order, Key.RATIO);
        }

        /** Answers how many jobs were dropped. */
        int orderWithFewestLate(Jobs jobs) {
            jobs.fillInOrder(byDue, Key.DUE);
            int taken = 0;
            int drops = 0;
            for (int place = 0; place < jobs.count; place++) {
                int job = byDue[place];
                taken |= 1 << job;
                // One drop is enough: without the longest, the sum is no more than it was ahead of this job.
                if (jobs.lengthOfSet(taken) > jobs.due[job]) {
                    int longest = longestOf(jobs, taken);
                    taken &= ~(1 << longest);
                    dropped[drops] = longest;
                    drops++;
                }
            }
            putDroppedBehind(jobs, taken, drops);
            return drops;
        }

        /** Of several as long, the one with the highest number. */
        private static int longestOf(Jobs jobs, int set) {
            int longest = 0;
            int length = 0;
            for (int job = 0; job < jobs.count; job++) {
                if (jobs.isIn(set, job) && jobs.length[job] >= length) {
                    longest = job;
                    length = jobs.length[job];
                }
            }
            return longest;
        }

        private void putDroppedBehind(Jobs jobs, int taken, int drops) {
            int filled = 0;
            for (int place = 0; place < jobs.count; place++) {
                if (jobs.isIn(taken, byDue[place])) {
                    order[filled] = byDue[place];
                    filled++;
                }
            }
            for (int place = 0; place < drops; place++) {
                order[filled] = dropped[place];
                filled++;
            }
        }

        /** Goes forward by the lowest number with which the rest still comes to the least. */
        void orderByTardiness(Jobs jobs) {
            fillLeastTardiness(jobs);
            int done = 0;
            for (int place = 0; place < jobs.count; place++) {
                int time = jobs.lengthOfSet(done);
                for (int job = 0; job < jobs.count; job++) {
                    if (!jobs.isIn(done, job) && tardinessBy(jobs, done, time, job) == rest[done]) {
                        order[place] = job;
                        done |= 1 << job;
                        break;
                    }
                }
            }
        }

        private void fillLeastTardiness(Jobs jobs) {
            rest[jobs.all()] = 0;
            for (int done = jobs.all() - 1; done >= 0; done--) {
                int time = jobs.lengthOfSet(done);
                rest[done] = FAR;
                for (int job = 0; job < jobs.count; job++) {
                    if (!jobs.isIn(done, job)) {
                        rest[done] = Math.min(rest[done], tardinessBy(jobs, done, time, job));
                    }
                }
            }
        }

        /** The least tardiness of the jobs that are not done, if this one is the next. */
        private int tardinessBy(Jobs jobs, int done, int time, int job) {
            return Cost.WEIGHTED_TARDINESS.with(rest[done | 1 << job], jobs, job, time + jobs.length[job]);
        }

        /** Goes forward by the lowest number with which nothing needs to be later than it is in the best order. */
        void orderByFamilies(Jobs jobs) {
            fillMustBeDone(jobs);
            fillLeastLateness(jobs);
            int limit = rest[state(0, NO_FAMILY)];
            int done = 0;
            int family = NO_FAMILY;
            int time = 0;
            for (int place = 0; place < jobs.count; place++) {
                for (int job = 0; job < jobs.count; job++) {
                    if (isNext(jobs, done, job) && time + latenessBy(jobs, done, family, job) <= limit) {
                        order[place] = job;
                        time += jobs.setupBehind(family, job) + jobs.length[job];
                        done |= 1 << job;
                        family = jobs.family[job];
                        break;
                    }
                }
            }
        }

        private void fillMustBeDone(Jobs jobs) {
            jobs.fillInOrder(byDue, Key.DUE);
            for (int place = 0; place < jobs.count; place++) {
                int job = byDue[place];
                mustBeDone[job] = 0;
                for (int ahead = 0; ahead < place; ahead++) {
                    if (jobs.family[byDue[ahead]] == jobs.family[job]) {
                        mustBeDone[job] |= 1 << byDue[ahead];
                    }
                }
            }
        }

        private void fillLeastLateness(Jobs jobs) {
            for (int family = 0; family <= NO_FAMILY; family++) {
                rest[state(jobs.all(), family)] = -FAR;
            }
            for (int done = jobs.all() - 1; done >= 0; done--) {
                // Most sets break the order by due dates in a family, and nothing ever asks for them.
                if (keepsFamilyOrders(jobs, done)) {
                    for (int family = 0; family <= NO_FAMILY; family++) {
                        rest[state(done, family)] = leastLatenessFrom(jobs, done, family);
                    }
                }
            }
        }

        private boolean keepsFamilyOrders(Jobs jobs, int done) {
            for (int job = 0; job < jobs.count; job++) {
                if (jobs.isIn(done, job) && (mustBeDone[job] & ~done) != 0) {
                    return false;
                }
            }
            return true;
        }

        private int leastLatenessFrom(Jobs jobs, int done, int family) {
            int least = FAR;
            for (int job = 0; job < jobs.count; job++) {
                if (isNext(jobs, done, job)) {
                    least = Math.min(least, latenessBy(jobs, done, family, job));
                }
            }
            return least;
        }

        /**
         * The least greatest lateness of the jobs that are not done, if this one is the next.
         * It counts from a time of 0: with setups the same jobs can be done at several times, but all lateness
         * shifts along.
         */
        private int latenessBy(Jobs jobs, int done, int family, int job) {
            int end = jobs.setupBehind(family, job) + jobs.length[job];
            return end + Math.max(-jobs.due[job], rest[state(done | 1 << job, jobs.family[job])]);
        }

        private boolean isNext(Jobs jobs, int done, int job) {
            return !jobs.isIn(done, job) && (mustBeDone[job] & ~done) == 0;
        }

        private static int state(int done, int family) {
            return done * (FAMILIES + 1) + family;
        }
    }

    /** The rules with preemption: a choice can only change when a job is done or released. */
    private static final class Preemption {
        private final int[] byDue = new int[MOST_JOBS];
        private final int[] remaining = new int[MOST_JOBS];

        void make(Jobs jobs, Plan plan, boolean shortest) {
            jobs.fillInOrder(byDue, Key.DUE);
            System.arraycopy(jobs.length, 0, remaining, 0, MOST_JOBS);
            plan.begin();
            // Each step ends with a job done or released, so there are no more of them than pieces.
            for (int step = 0; step < MOST_PIECES; step++) {
                int now = plan.now();
                int job = shortest ? shortestAt(jobs, now) : firstByDateAt(jobs, now);
                int free = nextRelease(jobs, now) - now;
                if (job != NOBODY) {
                    int time = Math.min(free, remaining[job]);
                    remaining[job] -= time;
                    plan.addWork(job, time);
                } else if (now + free < FAR) {
                    plan.add(IDLE, NOBODY, free);
                } else {
                    break;
                }
            }
        }

        private boolean isOpen(Jobs jobs, int job, int now) {
            return remaining[job] > 0 && jobs.release[job] <= now;
        }

        private int firstByDateAt(Jobs jobs, int now) {
            for (int place = 0; place < jobs.count; place++) {
                if (isOpen(jobs, byDue[place], now)) {
                    return byDue[place];
                }
            }
            return NOBODY;
        }

        private int shortestAt(Jobs jobs, int now) {
            int shortest = NOBODY;
            int least = FAR;
            for (int job = 0; job < jobs.count; job++) {
                if (isOpen(jobs, job, now) && remaining[job] < least) {
                    shortest = job;
                    least = remaining[job];
                }
            }
            return shortest;
        }

        /** The first release after a time; far away, if there is none. */
        private static int nextRelease(Jobs jobs, int now) {
            int next = FAR;
            for (int job = 0; job < jobs.count; job++) {
                if (jobs.release[job] > now) {
                    next = Math.min(next, jobs.release[job]);
                }
            }
            return next;
        }
    }

    /** Tries all orders of the jobs, but leaves one as soon as its first jobs cost as much as the best one. */
    private static final class Orders {
        private final int[] byRelease = new int[MOST_JOBS];
        private Way way = Way.IN_A_ROW;
        private Cost cost = Cost.COMPLETIONS;
        private int least;

        int least(Jobs jobs, Way newWay, Cost newCost) {
            way = newWay;
            cost = newCost;
            least = FAR;
            jobs.fillInOrder(byRelease, Key.RELEASE);
            tryAll(this, jobs, 0, NO_FAMILY, 0, newCost.ofNoJob(), 0);
            return least;
        }

        /** Tries all orders that begin with the jobs ahead, which end at a time and cost something so far. */
        private static void tryAll(Orders orders, Jobs jobs, int ahead, int family, int time, int soFar, int depth) {
            if (soFar >= orders.least || depth > MOST_TRIED) {
                return;
            }
            if (ahead == jobs.all()) {
                orders.least = soFar;
                return;
            }
            for (int job = 0; job < jobs.count; job++) {
                if (!jobs.isIn(ahead, job)) {
                    int end = orders.endBehind(jobs, ahead, family, time, job);
                    int together = orders.cost.with(soFar, jobs, job, end);
                    tryAll(orders, jobs, ahead | 1 << job, jobs.family[job], end, together, depth + 1);
                }
            }
        }

        private int endBehind(Jobs jobs, int ahead, int family, int time, int job) {
            switch (way) {
                case IN_A_ROW:
                    return time + jobs.length[job];
                case WITH_SETUPS:
                    return time + jobs.setupBehind(family, job) + jobs.length[job];
                case AS_PRIORITIES:
                default:
                    return endInGaps(jobs, ahead, job);
            }
        }

        /**
         * When a job is done that is worked on only while those ahead of it are not released or done.
         * The order of those ahead does not matter: the machine is busy with them at the same times.
         */
        private int endInGaps(Jobs jobs, int ahead, int job) {
            int left = jobs.length[job];
            int busyUntil = 0;
            for (int place = 0; place < jobs.count; place++) {
                int other = byRelease[place];
                if (jobs.isIn(ahead, other)) {
                    int from = Math.max(busyUntil, jobs.release[job]);
                    int gap = Math.max(0, jobs.release[other] - from);
                    if (gap >= left) {
                        return from + left;
                    }
                    left -= gap;
                    busyUntil = Math.max(busyUntil, jobs.release[other]) + jobs.length[other];
                }
            }
            return Math.max(busyUntil, jobs.release[job]) + left;
        }
    }

    /** Tries sets of jobs. */
    private static final class Sets {
        private final int[] byDue = new int[MOST_JOBS];

        boolean isOnTime(Jobs jobs, int set) {
            jobs.fillInOrder(byDue, Key.DUE);
            return isOnTimeByDue(jobs, set);
        }

        int mostOnTime(Jobs jobs) {
            jobs.fillInOrder(byDue, Key.DUE);
            int most = 0;
            for (int set = 0; set <= jobs.all(); set++) {
                if (Integer.bitCount(set) > most && isOnTimeByDue(jobs, set)) {
                    most = Integer.bitCount(set);
                }
            }
            return most;
        }

        /** If any order has no late job, the one by due dates has none: its greatest lateness is the least. */
        private boolean isOnTimeByDue(Jobs jobs, int set) {
            int time = 0;
            for (int place = 0; place < jobs.count; place++) {
                int job = byDue[place];
                if (jobs.isIn(set, job)) {
                    time += jobs.length[job];
                    if (time > jobs.due[job]) {
                        return false;
                    }
                }
            }
            return true;
        }
    }

    /** The window with the greatest bound; of several the one with the lowest due date, then release date. */
    private static final class Window {
        int bound;
        int due;
        int release;

        void findGreatest(Jobs jobs, boolean releases) {
            bound = -FAR;
            for (int first = 0; first < jobs.count; first++) {
                for (int second = 0; second < jobs.count; second++) {
                    tryWindow(jobs, releases, releases ? jobs.release[first] : 0, jobs.due[second]);
                }
            }
        }

        private void tryWindow(Jobs jobs, boolean releases, int from, int until) {
            int lengths = lengthsWithin(jobs, releases, from, until);
            int newBound = from + lengths - until;
            // Without any length there is no job in it, and so it is no window.
            if (lengths > 0 && isBetter(newBound, until, from)) {
                bound = newBound;
                due = until;
                release = from;
            }
        }

        private boolean isBetter(int newBound, int newDue, int newRelease) {
            if (newBound != bound) {
                return newBound > bound;
            }
            return newDue != due ? newDue < due : newRelease < release;
        }

        private static int lengthsWithin(Jobs jobs, boolean releases, int from, int until) {
            int sum = 0;
            for (int job = 0; job < jobs.count; job++) {
                boolean released = !releases || jobs.release[job] >= from;
                if (released && jobs.due[job] <= until) {
                    sum += jobs.length[job];
                }
            }
            return sum;
        }
    }
}
