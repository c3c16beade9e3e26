import java.util.function.ToIntFunction;

/** The sentences of the promises 27 to 37: the second ways. */
final class SecondWaysSentences {
    private static final Class<IllegalArgumentException> ARGUMENT = IllegalArgumentException.class;
    private static final Class<IllegalStateException> STATE = IllegalStateException.class;
    private static final String ALL_ORDERS =
            "Tries all orders of the jobs, one after the other without setups and release dates.";
    private static final String NO_JOB_OR_MANY =
            "Throws `IllegalStateException` if there is no job, or there are more than 7";
    private static final String NO_JOB = "Throws `IllegalStateException` if there is no job";

    private SecondWaysSentences() {
    }

    static void test(Sentences said) {
        testOrders(said);
        testPriorities(said);
        said.in("Promise 33: canBeOnTime");
        said.that("Tells whether some jobs can all be on time, that is not late, if they are the only ones, without"
                + " setups and release dates.", SecondWaysSentences::onTime);
        said.that("- `set`: the jobs, as bits: the sum of 2 to the power of their numbers", SecondWaysSentences::bits);
        said.that("Returns whether they can; true for no jobs.", SecondWaysSentences::noJobsOnTime);
        said.that("Throws `IllegalArgumentException` if set is below 0, or has a bit of no job",
                SecondWaysSentences::noSuchSet);
        said.in("Promise 34: fewestLateBySets");
        said.that("Tries all sets of jobs.", SecondWaysSentences::allSets);
        said.that("Returns the number of jobs, less the greatest number of jobs that can all be on time.",
                SecondWaysSentences::fewestLate);
        testWindows(said);
    }

    private static void testOrders(Sentences said) {
        said.in("Promise 27: leastLateness");
        said.that(ALL_ORDERS, check -> plain(check, OneMachine::leastLateness, 4, 1));
        said.that("Returns the least greatest lateness of them.", SecondWaysSentences::leastLateness);
        said.that(NO_JOB_OR_MANY, check -> fewJobs(check, OneMachine::leastLateness, 1));
        said.in("Promise 28: leastCompletions");
        said.that(ALL_ORDERS, check -> plain(check, OneMachine::leastCompletions, 203, 4));
        said.that("Returns the least sum of weight times completion of them.", SecondWaysSentences::leastCompletions);
        said.that(NO_JOB_OR_MANY, check -> fewJobs(check, OneMachine::leastCompletions, 28));
        said.in("Promise 29: leastTardiness");
        said.that(ALL_ORDERS, check -> plain(check, OneMachine::leastTardiness, 16, 1));
        said.that("Returns the least sum of weight times tardiness of them.", SecondWaysSentences::leastTardiness);
        said.that(NO_JOB_OR_MANY, check -> fewJobs(check, OneMachine::leastTardiness, 7));
        said.in("Promise 30: leastWithSetups");
        said.that("Tries all orders of the jobs, with setups and without release dates; the jobs of a family can stand"
                + " in any order.", SecondWaysSentences::withSetups);
        said.that("Returns the least greatest lateness of them.", SecondWaysSentences::leastWithSetups);
        said.that(NO_JOB_OR_MANY, check -> fewJobs(check, OneMachine::leastWithSetups, 1));
    }

    private static void testPriorities(Sentences said) {
        said.in("Promise 31: leastPreemptiveLateness");
        said.that("Tries all orders of the jobs as priorities.", SecondWaysSentences::prioritiesForLateness);
        said.that("Returns the least greatest lateness of the preemptive plans for which they stand.",
                SecondWaysSentences::leastPreemptiveLateness);
        said.that(NO_JOB_OR_MANY, check -> fewJobs(check, OneMachine::leastPreemptiveLateness, 1));
        said.in("Promise 32: leastPreemptiveCompletions");
        said.that("Tries all orders of the jobs as priorities.", SecondWaysSentences::prioritiesForCompletions);
        said.that("Returns the least sum of completions of the preemptive plans for which they stand.",
                SecondWaysSentences::leastPreemptiveCompletions);
        said.that(NO_JOB_OR_MANY, check -> fewJobs(check, OneMachine::leastPreemptiveCompletions, 28));
    }

    private static void testWindows(Sentences said) {
        said.in("Promise 35: windowBound");
        said.that("Tries all windows.", SecondWaysSentences::allWindows);
        said.that("- `releases`: whether release dates matter; if not, all of them count as 0",
                SecondWaysSentences::releases);
        said.that("Returns the greatest bound.", SecondWaysSentences::greatestBound);
        said.that(NO_JOB, check -> {
            needsJob(check, machine -> machine.windowBound(true));
            needsJob(check, machine -> machine.windowBound(false));
        });
        said.in("Promise 36: windowDue");
        said.that("Returns the due date of the window with the greatest bound, of several the lowest due date;"
                + " release dates matter.", SecondWaysSentences::windowDue);
        said.that("Returns the due date.", SecondWaysSentences::dueDateItself);
        said.that(NO_JOB, check -> needsJob(check, OneMachine::windowDue));
        said.in("Promise 37: windowRelease");
        said.that("Returns the release date of the window with the greatest bound and the due date windowDue(), of"
                + " several the lowest release date.", SecondWaysSentences::windowRelease);
        said.that("Returns the release date.", SecondWaysSentences::releaseDateItself);
        said.that(NO_JOB, check -> needsJob(check, OneMachine::windowRelease));
    }

    // ---- all orders

    /** Of none, 8 and 10 jobs each way throws; seven jobs, each 1 long and due at its number, are not too many. */
    private static void fewJobs(Check check, ToIntFunction<OneMachine> way, int ofSeven) {
        check.fails("a new object", STATE, () -> way.applyAsInt(new OneMachine()));
        OneMachine machine = Machines.withJobs(8);
        machine.planByDueDates();
        String before = Machines.pieces(machine);
        check.fails("8 jobs", STATE, () -> way.applyAsInt(machine));
        check.fails("9 jobs", STATE, () -> way.applyAsInt(Machines.withJobs(9)));
        check.fails("10 jobs", STATE, () -> way.applyAsInt(Machines.withJobs(10)));
        check.planned("the plan is kept", machine, before);
        machine.removeJob(7);
        check.same("7 jobs", way.applyAsInt(machine), ofSeven);
        check.same("7 jobs from the beginning", way.applyAsInt(Machines.withJobs(7)), ofSeven);
        check.same("1 job", way.applyAsInt(Machines.withJobs(1)), 1);
        for (int left = 6; left >= 0; left--) {
            machine.removeJob(left);
        }
        check.fails("all removed", STATE, () -> way.applyAsInt(machine));
        check.same("jobs()", machine.jobs(), 0);
    }

    /** The answer is also told for one job alone, 4 long and due at 3. */
    private static void plain(Check check, ToIntFunction<OneMachine> way, int ofSix, int ofOne) {
        check.same("with release dates, families and setups", way.applyAsInt(Machines.six()), ofSix);
        check.same("without them", way.applyAsInt(Machines.sixPlain()), ofSix);
        OneMachine one = Machines.of(new int[][] {{4, 3, 1, 100, 3}});
        one.setSetup(3, 20);
        check.same("one job", way.applyAsInt(one), ofOne);
        OneMachine planned = Machines.six();
        planned.planPreemptiveShortest();
        String before = Machines.pieces(planned);
        way.applyAsInt(planned);
        check.planned("the plan is kept", planned, before);
    }

    private static void leastLateness(Check check) {
        check.same("below 0", Machines.of(new int[][] {{5, 9}}).leastLateness(), -4);
        check.same("the lowest of all", Machines.of(new int[][] {{1, 300}}).leastLateness(), -299);
        check.same("the best order is not that of the numbers",
                Machines.of(new int[][] {{3, 9}, {3, 6}, {3, 3}}).leastLateness(), 0);
        check.same("the greatest of seven", Machines.alike(7, new int[] {30, 0, 20, 0, 0}).leastLateness(), 210);
    }

    private static void leastCompletions(Check check) {
        check.same("the best order is not that of the numbers",
                Machines.of(new int[][] {{3, 0, 1}, {1, 0, 1}, {1, 0, 2}}).leastCompletions(), 2 + 2 + 5);
        check.same("the least", Machines.of(new int[][] {{1, 0, 1}}).leastCompletions(), 1);
        check.same("the greatest of seven", Machines.alike(7, new int[] {30, 0, 20, 0, 0}).leastCompletions(),
                20 * 30 * 28);
    }

    private static void leastTardiness(Check check) {
        check.same("the heavy one first", Machines.of(new int[][] {{4, 4, 1}, {4, 5, 9}}).leastTardiness(), 4);
        check.same("none late", Machines.of(new int[][] {{4, 300, 1}, {4, 4, 9}}).leastTardiness(), 0);
        check.same("late by 1", Machines.of(new int[][] {{4, 3, 20}}).leastTardiness(), 20);
        check.same("the greatest of seven", Machines.alike(7, new int[] {30, 0, 20, 0, 0}).leastTardiness(),
                20 * 30 * 28);
    }

    private static void withSetups(Check check) {
        check.same("six jobs", Machines.six().leastWithSetups(), 9);
        OneMachine setups = Machines.of(new int[][] {{5, 9, 1, 50, 3}, {5, 9, 1, 50, 2}, {5, 9, 1, 50, 3}});
        setups.setSetup(3, 2);
        setups.setSetup(2, 4);
        check.same("a setup for each family", setups.leastWithSetups(), 12);
        setups.setSetup(1, 20);
        check.same("none for a family without jobs", setups.leastWithSetups(), 12);
        OneMachine turns = Machines.of(new int[][] {{2, 20, 1, 0, 0}, {2, 2, 1, 0, 1}, {2, 20, 1, 0, 0},
            {2, 20, 1, 0, 1}});
        turns.setSetup(0, 1);
        turns.setSetup(1, 3);
        check.same("ahead of the first one too", turns.leastWithSetups(), 3);
        OneMachine falling = Machines.of(new int[][] {{2, 7, 1, 0, 1}, {2, 5, 1, 0, 1}, {2, 3, 1, 0, 1}});
        falling.setSetup(1, 1);
        check.same("the due dates of a family fall", falling.leastWithSetups(), 0);
        setups.planByFamilies();
        String before = Machines.pieces(setups);
        setups.leastWithSetups();
        check.planned("the plan is kept", setups, before);
    }

    private static void leastWithSetups(Check check) {
        OneMachine machine = Machines.of(new int[][] {{1, 300, 1, 100, 3}});
        check.same("below 0", machine.leastWithSetups(), -299);
        machine.setSetup(3, 20);
        check.same("with a setup", machine.leastWithSetups(), -279);
        OneMachine seven = new OneMachine();
        for (int job = 0; job < 7; job++) {
            seven.addJob(30, 0, 20, 0, job % 4);
        }
        for (int family = 0; family < 4; family++) {
            seven.setSetup(family, 20);
        }
        check.same("the greatest of seven", seven.leastWithSetups(), 290);
    }

    // ---- priorities

    /** The second job breaks the first one off, and idle time comes ahead of both. */
    private static OneMachine broken() {
        OneMachine machine = Machines.of(new int[][] {{10, 100, 9, 2, 0}, {1, 6, 1, 5, 1}});
        machine.setSetup(0, 20);
        machine.setSetup(1, 20);
        return machine;
    }

    private static void prioritiesForLateness(Check check) {
        check.same("six jobs", Machines.six().leastPreemptiveLateness(), 5);
        check.same("a job is broken off", broken().leastPreemptiveLateness(), 0);
        OneMachine waits = Machines.of(new int[][] {{3, 10, 1, 0}, {3, 9, 1, 3}, {3, 14, 1, 20}});
        check.same("released when the one ahead is done", waits.leastPreemptiveLateness(), 9);
        OneMachine planned = broken();
        planned.planByDueDates();
        planned.leastPreemptiveLateness();
        check.planned("the plan is kept", planned, "j1:1 j0:11");
    }

    private static void leastPreemptiveLateness(Check check) {
        check.same("below 0", Machines.of(new int[][] {{5, 90, 1, 50}}).leastPreemptiveLateness(), -35);
        check.same("the lowest of all", Machines.of(new int[][] {{1, 300}}).leastPreemptiveLateness(), -299);
        check.same("the greatest of seven",
                Machines.alike(7, new int[] {30, 0, 20, 100, 0}).leastPreemptiveLateness(), 310);
    }

    private static void prioritiesForCompletions(Check check) {
        check.same("six jobs", Machines.six().leastPreemptiveCompletions(), 97);
        check.same("a job is broken off", broken().leastPreemptiveCompletions(), 6 + 13);
        OneMachine waits = Machines.of(new int[][] {{3, 0, 1, 0}, {3, 0, 1, 3}, {3, 0, 1, 20}});
        check.same("released when the one ahead is done", waits.leastPreemptiveCompletions(), 3 + 6 + 23);
        OneMachine planned = broken();
        planned.planByRatios();
        planned.leastPreemptiveCompletions();
        check.planned("the plan is kept", planned, "j1:1 j0:11");
    }

    private static void leastPreemptiveCompletions(Check check) {
        check.same("weights do not matter", Machines.of(new int[][] {{5, 90, 7, 50}}).leastPreemptiveCompletions(), 55);
        check.same("the least", Machines.of(new int[][] {{1, 0}}).leastPreemptiveCompletions(), 1);
        check.same("the greatest of seven",
                Machines.alike(7, new int[] {30, 0, 20, 100, 0}).leastPreemptiveCompletions(), 700 + 30 * 28);
    }

    // ---- sets

    private static void onTime(Check check) {
        OneMachine machine = Machines.six();
        check.same("all of six", machine.canBeOnTime(63), false);
        check.same("1, 3 and 4", machine.canBeOnTime(26), true);
        check.same("all but 2", machine.canBeOnTime(59), true);
        OneMachine edge = Machines.of(new int[][] {{5, 5, 1, 90, 3}, {5, 9, 1, 0, 0}, {5, 10, 1, 0, 0}});
        edge.setSetup(3, 20);
        edge.setSetup(0, 20);
        check.same("just on time, without setups and release dates", edge.canBeOnTime(5), true);
        check.same("late by 1", edge.canBeOnTime(3), false);
        check.same("the last one just on time", edge.canBeOnTime(6), true);
        for (int job = 0; job < 3; job++) {
            check.same("alone", edge.canBeOnTime(1 << job), true);
        }
        check.same("one that can never be", Machines.of(new int[][] {{1, 0}}).canBeOnTime(1), false);
        machine.planByRatios();
        String before = Machines.pieces(machine);
        machine.canBeOnTime(63);
        check.planned("the plan is kept", machine, before);
    }

    private static void bits(Check check) {
        OneMachine machine = new OneMachine();
        for (int set = 0; set < 1024; set++) {
            // An object is used for 512 calls alone.
            if (set % 256 == 0) {
                machine = everyThirdLate();
            }
            check.same("the set " + set, machine.canBeOnTime(set), (set & 0b1001001001) == 0);
        }
    }

    /** The jobs 0, 3, 6 and 9 are late in any set, the others in none. */
    private static OneMachine everyThirdLate() {
        OneMachine machine = new OneMachine();
        for (int job = 0; job < 10; job++) {
            machine.addJob(1, job % 3 == 0 ? 0 : 10, 1, 0, 0);
        }
        return machine;
    }

    private static void noJobsOnTime(Check check) {
        check.same("without a job", new OneMachine().canBeOnTime(0), true);
        check.same("none of six", Machines.six().canBeOnTime(0), true);
        check.same("none of those that are late", Machines.of(new int[][] {{1, 0}}).canBeOnTime(0), true);
        check.same("ten jobs", Machines.withJobs(10).canBeOnTime(1022), true);
        check.same("ten jobs, the late one too", Machines.withJobs(10).canBeOnTime(1023), false);
        OneMachine emptied = Machines.withJobs(1);
        emptied.removeJob(0);
        check.same("with all removed", emptied.canBeOnTime(0), true);
    }

    private static void noSuchSet(Check check) {
        for (int count = 0; count <= 10; count++) {
            OneMachine machine = Machines.withJobs(count);
            int all = (1 << count) - 1;
            for (int bit = count; bit < 32; bit++) {
                int set = 1 << bit;
                check.fails(count + " jobs, the bit " + bit, ARGUMENT, () -> machine.canBeOnTime(set));
                check.fails(count + " jobs and the bit " + bit, ARGUMENT, () -> machine.canBeOnTime(set | all));
            }
            check.fails(count + " jobs, below 0", ARGUMENT, () -> machine.canBeOnTime(-1));
            check.fails(count + " jobs, all bits", ARGUMENT, () -> machine.canBeOnTime(Integer.MAX_VALUE));
            check.same(count + " jobs, all of them", machine.canBeOnTime(all), count == 0);
        }
        OneMachine removed = Machines.withJobs(3);
        removed.removeJob(2);
        check.fails("the bit of one that is removed", ARGUMENT, () -> removed.canBeOnTime(4));
    }

    private static void allSets(Check check) {
        check.same("six jobs", Machines.six().fewestLateBySets(), 1);
        OneMachine edge = Machines.of(new int[][] {{5, 5, 1, 90, 3}, {5, 9, 1, 0, 0}, {5, 10, 1, 0, 0}});
        edge.setSetup(3, 20);
        check.same("two of three", edge.fewestLateBySets(), 1);
        check.same("the set of all", Machines.alike(10, new int[] {30, 300, 1, 0, 0}).fewestLateBySets(), 0);
        check.same("the last one alone", Machines.of(new int[][] {{1, 0}, {2, 1}, {3, 3}}).fewestLateBySets(), 2);
        check.same("the first one alone", Machines.of(new int[][] {{3, 3}, {2, 1}, {1, 0}}).fewestLateBySets(), 2);
        OneMachine planned = Machines.six();
        planned.planByRatios();
        String before = Machines.pieces(planned);
        planned.fewestLateBySets();
        check.planned("the plan is kept", planned, before);
    }

    private static void fewestLate(Check check) {
        check.same("no jobs", new OneMachine().fewestLateBySets(), 0);
        for (int count = 1; count <= 10; count++) {
            check.same("one late of " + count, Machines.withJobs(count).fewestLateBySets(), 1);
            check.same("all late of " + count,
                    Machines.alike(count, new int[] {1, 0, 1, 0, 0}).fewestLateBySets(), count);
            check.same("none late of " + count,
                    Machines.alike(count, new int[] {1, 10, 1, 0, 0}).fewestLateBySets(), 0);
        }
        check.same("half", Machines.alike(10, new int[] {2, 10, 1, 0, 0}).fewestLateBySets(), 5);
    }

    // ---- windows

    private static void needsJob(Check check, ToIntFunction<OneMachine> way) {
        check.fails("a new object", STATE, () -> way.applyAsInt(new OneMachine()));
        OneMachine machine = Machines.of(new int[][] {{3, 4, 1, 4}});
        check.same("one job is enough", way.applyAsInt(machine), way.applyAsInt(machine));
        machine.removeJob(0);
        check.fails("all removed", STATE, () -> way.applyAsInt(machine));
        check.same("hasPlan()", machine.hasPlan(), false);
        OneMachine ten = Machines.withJobs(10);
        ten.planByDueDates();
        check.same("ten jobs are not too many", way.applyAsInt(ten), way.applyAsInt(ten));
        check.same("the plan is kept", ten.pieces(), 10);
    }

    private static void allWindows(Check check) {
        check.same("six jobs", Machines.six().windowBound(true), 5);
        OneMachine apart = Machines.of(new int[][] {{1, 0, 1, 0}, {1, 300, 1, 100}});
        check.same("without a job from 100 to 0 is no window", apart.windowBound(true), 1);
        OneMachine crossed = Machines.of(new int[][] {{5, 8, 1, 2}, {5, 9, 1, 4}});
        check.same("the release date of one and the due date of another", crossed.windowBound(true), 2 + 10 - 9);
        OneMachine edges = Machines.of(new int[][] {{4, 10, 1, 5}, {3, 10, 1, 6}, {2, 9, 1, 5}});
        check.same("released at r and due at d", edges.windowBound(true), 5 + 9 - 10);
        OneMachine last = Machines.of(new int[][] {{1, 300}, {1, 300}, {9, 5, 1, 3}});
        check.same("that of the last job alone", last.windowBound(true), 7);
        OneMachine ten = Machines.alike(10, new int[] {30, 0, 1, 100, 0});
        check.same("ten jobs", ten.windowBound(true), 400);
    }

    private static void releases(Check check) {
        OneMachine machine = Machines.six();
        check.same("they matter", machine.windowBound(true), 5);
        check.same("all count as 0", machine.windowBound(false), 4);
        OneMachine one = Machines.of(new int[][] {{1, 200, 1, 50}});
        check.same("they matter", one.windowBound(true), -149);
        check.same("all count as 0", one.windowBound(false), -199);
        OneMachine both = Machines.of(new int[][] {{5, 8, 1, 100}, {5, 8, 1, 0}});
        check.same("they matter", both.windowBound(true), 97);
        check.same("all jobs are released from 0 on", both.windowBound(false), 2);
    }

    private static void greatestBound(Check check) {
        check.same("below 0", Machines.of(new int[][] {{1, 300}}).windowBound(true), -299);
        check.same("0", Machines.of(new int[][] {{5, 12, 1, 7}, {1, 300}}).windowBound(true), 0);
        OneMachine backwards = Machines.of(new int[][] {{3, 1, 1, 100}, {30, 200}});
        check.same("a due date below the release date", backwards.windowBound(true), 102);
        check.same("without release dates", backwards.windowBound(false), 2);
    }

    /** Both from 0 to 20 and from 4 to 10 the bound is 0. */
    private static OneMachine several() {
        return Machines.of(new int[][] {{2, 20, 1, 6}, {4, 10, 1, 4}, {2, 10, 1, 6}, {12, 20, 1, 0}});
    }

    /** From 5 to 10, from 3 to 10 and from 5 to 14 the bound is -1, as it is from 7 to 9. */
    private static int[][] ties() {
        return new int[][] {{3, 10, 1, 5}, {2, 10, 1, 3}, {4, 14, 1, 5}, {1, 9, 1, 7}};
    }

    private static void windowDue(Check check) {
        check.same("six jobs", Machines.six().windowDue(), 6);
        check.same("of two the lowest", several().windowDue(), 10);
        check.same("of more than two the lowest", Machines.of(ties()).windowDue(), 9);
        int[][] swapped = ties();
        swapped[3] = swapped[0];
        swapped[0] = ties()[3];
        check.same("the numbers do not matter", Machines.of(swapped).windowDue(), 9);
        OneMachine released = Machines.of(new int[][] {{5, 8, 1, 0}, {5, 20, 1, 30}, {5, 8, 1, 0}});
        check.same("release dates matter", released.windowDue(), 20);
        OneMachine planned = Machines.six();
        planned.planByRatios();
        String before = Machines.pieces(planned);
        planned.windowDue();
        check.planned("the plan is kept", planned, before);
    }

    private static void dueDateItself(Check check) {
        for (int due = 0; due <= 300; due += 20) {
            check.same("one job", Machines.of(new int[][] {{1, due, 1, 100}}).windowDue(), due);
        }
        check.same("no window is without a job", Machines.of(new int[][] {{1, 0}, {1, 300, 1, 100}}).windowDue(), 0);
    }

    private static void windowRelease(Check check) {
        check.same("six jobs", Machines.six().windowRelease(), 9);
        check.same("with the due date windowDue(), not the lowest of all", several().windowRelease(), 4);
        check.same("of the lowest due date", Machines.of(ties()).windowRelease(), 7);
        OneMachine machine = Machines.of(ties());
        machine.changeJob(3, 1, 10, 1, 5, 0);
        check.same("windowBound(true)", machine.windowBound(true), -1);
        check.same("windowDue()", machine.windowDue(), 10);
        check.same("of several the lowest", machine.windowRelease(), 3);
        OneMachine turned = Machines.of(new int[][] {{2, 10, 1, 3}, {3, 10, 1, 5}, {1, 10, 1, 5}});
        check.same("the numbers do not matter", turned.windowRelease(), 3);
        OneMachine planned = Machines.six();
        planned.planByRatios();
        String before = Machines.pieces(planned);
        planned.windowRelease();
        check.planned("the plan is kept", planned, before);
    }

    private static void releaseDateItself(Check check) {
        for (int release = 0; release <= 100; release += 10) {
            check.same("one job", Machines.of(new int[][] {{1, 200, 1, release}}).windowRelease(), release);
        }
        OneMachine backwards = Machines.of(new int[][] {{3, 1, 1, 100}, {30, 200}});
        check.same("above the due date", backwards.windowRelease(), 100);
    }
}
