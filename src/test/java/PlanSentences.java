import java.util.function.IntConsumer;
import java.util.function.ToIntFunction;

/** The sentences of the promises 14 to 26: the plan, asked piece by piece and job by job. */
final class PlanSentences {
    private static final Class<IllegalStateException> STATE = IllegalStateException.class;
    private static final Class<IndexOutOfBoundsException> INDEX = IndexOutOfBoundsException.class;
    private static final String NO_PIECE = "Throws `IndexOutOfBoundsException` if there is no such piece";
    private static final String NO_JOB = "Throws `IndexOutOfBoundsException` if there is no such job";
    private static final String NO_PLAN = "Throws `IllegalStateException` if there is no plan";

    /** A call that asks for one piece or job. */
    private interface Ask {
        int of(OneMachine machine, int number);
    }

    private PlanSentences() {
    }

    static void test(Sentences said) {
        said.in("Promise 14: hasPlan");
        said.that("Tells whether there is a plan.", PlanSentences::hasPlan);
        said.in("Promise 15: pieces");
        said.that("Returns the number of pieces of the plan; 0 without a plan.", PlanSentences::pieces);
        testPieces(said);
        testJobs(said);
        testSums(said);
    }

    private static void testPieces(Sentences said) {
        said.in("Promise 16: kindOf");
        said.that("Returns what a piece is.", PlanSentences::kinds);
        said.that("- `piece`: from 0", check -> firstPiece(check, OneMachine::kindOf, 2, 0));
        said.that("Returns 0 a job, 1 a setup, 2 idle.", PlanSentences::kindNumbers);
        said.that(NO_PIECE, check -> noSuchPiece(check, OneMachine::kindOf));
        said.in("Promise 17: whoseIs");
        said.that("Returns the job of a piece, or the family of a setup.", PlanSentences::whose);
        said.that("- `piece`: from 0", check -> firstPiece(check, OneMachine::whoseIs, -1, 1));
        said.that("Returns the number of the job, or the family; -1 if the piece is idle.",
                PlanSentences::whoseNumbers);
        said.that(NO_PIECE, check -> noSuchPiece(check, OneMachine::whoseIs));
        said.in("Promise 18: startOf");
        said.that("Returns the start of a piece.", PlanSentences::starts);
        said.that("- `piece`: from 0", check -> firstPiece(check, OneMachine::startOf, 0, 4));
        said.that("Returns the time.", check -> times(check, OneMachine::startOf, new int[] {0, 30, 100}));
        said.that(NO_PIECE, check -> noSuchPiece(check, OneMachine::startOf));
        said.in("Promise 19: endOf");
        said.that("Returns the end of a piece.", PlanSentences::ends);
        said.that("- `piece`: from 0", check -> firstPiece(check, OneMachine::endOf, 4, 7));
        said.that("Returns the time.", check -> times(check, OneMachine::endOf, new int[] {30, 100, 101}));
        said.that(NO_PIECE, check -> noSuchPiece(check, OneMachine::endOf));
    }

    private static void testJobs(Sentences said) {
        said.in("Promise 20: completion");
        said.that("Returns the completion of a job in the plan.", PlanSentences::completions);
        said.that("- `job`: its number", check -> eachJob(check, OneMachine::completion, 0));
        said.that("Returns the time.", PlanSentences::completionTimes);
        said.that(NO_JOB, check -> noSuchJob(check, OneMachine::completion));
        said.that(NO_PLAN, check -> jobWithoutPlan(check, OneMachine::completion));
        said.in("Promise 21: lateness");
        said.that("Returns the lateness of a job in the plan.", PlanSentences::latenesses);
        said.that("- `job`: its number", check -> eachJob(check, OneMachine::lateness, 50));
        said.that("Returns the lateness, perhaps below 0.", PlanSentences::latenessBelowZero);
        said.that(NO_JOB, check -> noSuchJob(check, OneMachine::lateness));
        said.that(NO_PLAN, check -> jobWithoutPlan(check, OneMachine::lateness));
    }

    private static void testSums(Sentences said) {
        said.in("Promise 22: maxLateness");
        said.that("Returns the greatest lateness of all jobs in the plan.", PlanSentences::maxLateness);
        said.that("Returns the lateness, perhaps below 0.", PlanSentences::maxLatenessBelowZero);
        said.that(NO_PLAN, check -> withoutPlan(check, OneMachine::maxLateness));
        said.in("Promise 23: lateJobs");
        said.that("Returns how many jobs are late in the plan.", PlanSentences::lateJobs);
        said.that("Returns how many.", PlanSentences::lateJobsFromNoneToAll);
        said.that(NO_PLAN, check -> withoutPlan(check, OneMachine::lateJobs));
        said.in("Promise 24: completions");
        said.that("Returns the sum of completions of all jobs in the plan.", PlanSentences::sumOfCompletions);
        said.that("Returns the sum.", PlanSentences::sumOfCompletionsAtItsEnds);
        said.that(NO_PLAN, check -> withoutPlan(check, OneMachine::completions));
        said.in("Promise 25: weightedCompletions");
        said.that("Returns the sum of weight times completion of all jobs in the plan.",
                PlanSentences::weightedCompletions);
        said.that("Returns the sum.", PlanSentences::weightedCompletionsAtTheirEnds);
        said.that(NO_PLAN, check -> withoutPlan(check, OneMachine::weightedCompletions));
        said.in("Promise 26: weightedTardiness");
        said.that("Returns the sum of weight times tardiness of all jobs in the plan.",
                PlanSentences::weightedTardiness);
        said.that("Returns the sum.", PlanSentences::weightedTardinessAtItsEnds);
        said.that(NO_PLAN, check -> withoutPlan(check, OneMachine::weightedTardiness));
    }

    // ---- the machines that these tests begin with

    /** By families "s2:5 j0:8 s0:9 j1:11", preemptive by dates "-:4 j0:7 j1:9". */
    private static OneMachine two() {
        OneMachine machine = Machines.of(new int[][] {{3, 9, 2, 4, 2}, {2, 12, 5, 4, 0}});
        machine.setSetup(2, 5);
        machine.setSetup(0, 1);
        return machine;
    }

    /** Preemptive "-:4 j1:7 j0:9 j1:12". */
    private static OneMachine brokenOff() {
        OneMachine machine = Machines.of(new int[][] {{2, 9, 2, 7, 1}, {6, 20, 3, 4, 1}});
        machine.planPreemptiveByDates();
        return machine;
    }

    private static OneMachine plannedSix() {
        OneMachine machine = Machines.six();
        machine.planByDueDates();
        return machine;
    }

    // ---- pieces

    private static void hasPlan(Check check) {
        Machines.RULES.forEach((name, rule) -> {
            OneMachine machine = two();
            check.same("ahead of " + name, machine.hasPlan(), false);
            rule.applyAsInt(machine);
            check.same("behind " + name, machine.hasPlan(), true);
            check.same("asked again", machine.hasPlan(), true);
            machine.setSetup(1, 1);
            check.same("dropped", machine.hasPlan(), false);
        });
    }

    private static void pieces(Check check) {
        OneMachine machine = two();
        check.same("without a plan", machine.pieces(), 0);
        machine.planByFamilies();
        check.same("by families", machine.pieces(), 4);
        machine.planByDueDates();
        check.same("by due dates", machine.pieces(), 2);
        machine.planPreemptiveByDates();
        check.same("preemptive", machine.pieces(), 3);
        machine.removeJob(0);
        check.same("dropped", machine.pieces(), 0);
        machine.planByRatios();
        check.same("one job", machine.pieces(), 1);
        machine.removeJob(0);
        check.same("no job left", machine.pieces(), 0);
        check.same("the most, preemptive", twentyPreemptive().pieces(), 20);
        check.same("the most, by families", twentyByFamilies().pieces(), 20);
    }

    /** Every job is released while the one ahead of it is worked on, and is due earlier. */
    private static OneMachine twentyPreemptive() {
        OneMachine machine = new OneMachine();
        for (int job = 0; job < 10; job++) {
            machine.addJob(30, 300 - job, 1, job + 1, 0);
        }
        machine.planPreemptiveByDates();
        return machine;
    }

    /** The first job is late by 2 in any order, and the others are due so far apart that they can take turns. */
    private static OneMachine twentyByFamilies() {
        OneMachine machine = new OneMachine();
        for (int job = 0; job < 10; job++) {
            machine.addJob(1, 30 * job, 1, 0, job % 2);
        }
        machine.setSetup(0, 1);
        machine.setSetup(1, 1);
        machine.planByFamilies();
        return machine;
    }

    private static void firstPiece(Check check, Ask ask, int first, int second) {
        OneMachine machine = Machines.of(new int[][] {{3, 2, 1, 4}, {3, 1, 1, 4}});
        machine.planPreemptiveByDates();
        check.planned("the plan", machine, "-:4 j1:7 j0:10");
        check.same("piece 0", ask.of(machine, 0), first);
        check.same("piece 1", ask.of(machine, 1), second);
        check.fails("a piece ahead of 0", INDEX, () -> ask.of(machine, -1));
    }

    private static void noSuchPiece(Check check, Ask ask) {
        OneMachine none = new OneMachine();
        OneMachine unplanned = Machines.six();
        OneMachine dropped = plannedSix();
        dropped.addJob(1, 1, 1, 1, 1);
        for (OneMachine machine : new OneMachine[] {none, unplanned, dropped}) {
            outside(check, 0, piece -> ask.of(machine, piece));
        }
        OneMachine machine = plannedSix();
        check.same("the last piece, asked twice", ask.of(machine, 5), ask.of(machine, 5));
        outside(check, 6, piece -> ask.of(machine, piece));
        machine.planByFamilies();
        check.same("behind more pieces", ask.of(machine, 8), ask.of(machine, 8));
        outside(check, 9, piece -> ask.of(machine, piece));
        machine.planByRatios();
        outside(check, 6, piece -> ask.of(machine, piece));
        outside(check, 20, piece -> ask.of(twentyPreemptive(), piece));
        check.planned("the plan is kept", machine, "j3:2 j1:5 j5:9 j0:16 j2:24 j4:30");
    }

    private static void outside(Check check, int count, IntConsumer call) {
        for (int number : new int[] {-1, count, count + 1, -count - 1, 100, 256, 65536, Integer.MIN_VALUE,
            Integer.MAX_VALUE}) {
            check.fails("with " + number, INDEX, () -> call.accept(number));
        }
    }

    private static void kinds(Check check) {
        OneMachine machine = two();
        machine.planByFamilies();
        check.same("setup", machine.kindOf(0), 1);
        check.same("job", machine.kindOf(1), 0);
        check.same("setup", machine.kindOf(2), 1);
        check.same("job", machine.kindOf(3), 0);
        machine.planByDueDates();
        check.same("job", machine.kindOf(0), 0);
        check.same("job", machine.kindOf(1), 0);
    }

    private static void kindNumbers(Check check) {
        OneMachine machine = two();
        machine.planByFamilies();
        check.same("a setup", machine.kindOf(0), 1);
        machine.planPreemptiveShortest();
        check.same("idle", machine.kindOf(0), 2);
        check.same("a job", machine.kindOf(1), 0);
        OneMachine between = Machines.of(new int[][] {{2, 5}, {2, 5, 1, 6}});
        between.planPreemptiveByDates();
        check.same("a job", between.kindOf(0), 0);
        check.same("idle between jobs", between.kindOf(1), 2);
        check.same("a job", between.kindOf(2), 0);
    }

    private static void whose(Check check) {
        OneMachine machine = plannedSix();
        int[] order = {3, 1, 5, 2, 0, 4};
        for (int piece = 0; piece < 6; piece++) {
            check.same("the job of piece " + piece, machine.whoseIs(piece), order[piece]);
        }
        machine.planByFamilies();
        int[] withFamilies = {1, 3, 1, 0, 5, 2, 0, 2, 4};
        for (int piece = 0; piece < 9; piece++) {
            check.same("with families, piece " + piece, machine.whoseIs(piece), withFamilies[piece]);
        }
    }

    private static void whoseNumbers(Check check) {
        for (int family = 0; family < 4; family++) {
            OneMachine machine = Machines.of(new int[][] {{2, 5, 1, 9, family}});
            machine.setSetup(family, 1);
            machine.planByFamilies();
            check.same("the family", machine.whoseIs(0), family);
            check.same("the job", machine.whoseIs(1), 0);
            machine.planPreemptiveByDates();
            check.same("idle", machine.whoseIs(0), -1);
            check.same("the job", machine.whoseIs(1), 0);
        }
        OneMachine ten = twentyPreemptive();
        check.same("idle at first", ten.whoseIs(0), -1);
        for (int job = 0; job < 10; job++) {
            check.same("a job that is broken off", ten.whoseIs(job + 1), job);
            check.same("its last piece", ten.whoseIs(19 - job), job);
        }
    }

    private static void starts(Check check) {
        OneMachine machine = brokenOff();
        int[] starts = {0, 4, 7, 9};
        for (int piece = 0; piece < 4; piece++) {
            check.same("startOf(" + piece + ")", machine.startOf(piece), starts[piece]);
        }
        machine.planByDueDates();
        check.same("from 0 on", machine.startOf(0), 0);
        check.same("from the end of the one ahead", machine.startOf(1), 2);
    }

    private static void ends(Check check) {
        OneMachine machine = brokenOff();
        int[] ends = {4, 7, 9, 12};
        for (int piece = 0; piece < 4; piece++) {
            check.same("endOf(" + piece + ")", machine.endOf(piece), ends[piece]);
        }
        machine.planByDueDates();
        check.same("the first one", machine.endOf(0), 2);
        check.same("the last one", machine.endOf(1), 8);
    }

    /** Of a plan from 0 to 30, then idle until 100, and then to 101. */
    private static void times(Check check, Ask ask, int[] times) {
        OneMachine machine = Machines.of(new int[][] {{1, 300, 1, 100}, {30, 300, 1, 0}});
        machine.planPreemptiveShortest();
        for (int piece = 0; piece < 3; piece++) {
            check.same("piece " + piece, ask.of(machine, piece), times[piece]);
        }
    }

    // ---- jobs

    private static void completions(Check check) {
        OneMachine machine = plannedSix();
        int[] byDate = {24, 5, 17, 2, 30, 9};
        for (int job = 0; job < 6; job++) {
            check.same("completion(" + job + ")", machine.completion(job), byDate[job]);
        }
        machine.planByFamilies();
        int[] withSetups = {28, 6, 21, 3, 39, 13};
        for (int job = 0; job < 6; job++) {
            check.same("with families, completion(" + job + ")", machine.completion(job), withSetups[job]);
        }
        OneMachine dropped = Machines.of(new int[][] {{5, 4}, {3, 6}});
        dropped.planFewestLate();
        check.same("one that was dropped", dropped.completion(0), 8);
        check.same("one that was taken", dropped.completion(1), 3);
    }

    /** Each of ten jobs is alone released and due in its turn. */
    private static void eachJob(Check check, Ask ask, int due) {
        for (int count = 1; count <= 10; count++) {
            OneMachine machine = new OneMachine();
            for (int job = 0; job < count; job++) {
                machine.addJob(job + 1, due, 1, 0, 0);
            }
            machine.planByDueDates();
            for (int job = 0; job < count; job++) {
                check.same("job " + job, ask.of(machine, job), (job + 1) * (job + 2) / 2 - due);
            }
        }
    }

    private static void completionTimes(Check check) {
        OneMachine machine = brokenOff();
        check.same("the one in between", machine.completion(0), 9);
        check.same("the end of its last piece", machine.completion(1), 12);
        OneMachine latest = Machines.alike(10, new int[] {30, 0, 1, 100, 0});
        latest.planPreemptiveShortest();
        check.same("the latest of all", latest.completion(9), 400);
        OneMachine least = Machines.withJobs(1);
        least.planByRatios();
        check.same("the earliest of all", least.completion(0), 1);
    }

    private static void noSuchJob(Check check, Ask ask) {
        OneMachine none = new OneMachine();
        outside(check, 0, job -> ask.of(none, job));
        OneMachine unplanned = Machines.six();
        outside(check, 6, job -> ask.of(unplanned, job));
        OneMachine machine = plannedSix();
        outside(check, 6, job -> ask.of(machine, job));
        machine.removeJob(5);
        machine.planByDueDates();
        outside(check, 5, job -> ask.of(machine, job));
        check.planned("the plan is kept", machine, "j3:2 j1:5 j2:13 j0:20 j4:26");
        OneMachine ten = Machines.withJobs(10);
        ten.planByDueDates();
        outside(check, 10, job -> ask.of(ten, job));
    }

    private static void jobWithoutPlan(Check check, Ask ask) {
        for (int job = 0; job < 6; job++) {
            int number = job;
            check.fails("never planned", STATE, () -> ask.of(Machines.six(), number));
        }
        OneMachine dropped = plannedSix();
        dropped.setSetup(3, 0);
        check.fails("dropped", STATE, () -> ask.of(dropped, 5));
        dropped.planByDueDates();
        dropped.addJob(1, 1, 1, 1, 1);
        check.fails("dropped by one more job", STATE, () -> ask.of(dropped, 6));
        check.same("hasPlan()", dropped.hasPlan(), false);
    }

    private static void latenesses(Check check) {
        OneMachine machine = plannedSix();
        int[] byDate = {4, -4, 2, -4, 0, -2};
        for (int job = 0; job < 6; job++) {
            check.same("lateness(" + job + ")", machine.lateness(job), byDate[job]);
        }
        machine.planByFamilies();
        int[] withSetups = {8, -3, 6, -3, 9, 2};
        for (int job = 0; job < 6; job++) {
            check.same("with families, lateness(" + job + ")", machine.lateness(job), withSetups[job]);
        }
    }

    private static void latenessBelowZero(Check check) {
        for (int due = 0; due <= 300; due += 5) {
            OneMachine machine = Machines.of(new int[][] {{10, due}});
            machine.planByDueDates();
            check.same("due at " + due, machine.lateness(0), 10 - due);
        }
        OneMachine latest = Machines.alike(10, new int[] {30, 0, 1, 100, 0});
        latest.planPreemptiveShortest();
        check.same("the greatest of all", latest.lateness(9), 400);
    }

    // ---- sums

    private static void withoutPlan(Check check, ToIntFunction<OneMachine> sum) {
        OneMachine machine = new OneMachine();
        check.fails("a new object", STATE, () -> sum.applyAsInt(machine));
        check.fails("a rule without a job", STATE, machine::planByRatios);
        check.fails("a new object again", STATE, () -> sum.applyAsInt(machine));
        machine.addJob(1, 1, 1, 1, 1);
        check.fails("never planned", STATE, () -> sum.applyAsInt(machine));
        machine.planByRatios();
        check.same("planned, asked twice", sum.applyAsInt(machine), sum.applyAsInt(machine));
        machine.changeJob(0, 1, 1, 1, 1, 1);
        check.fails("dropped", STATE, () -> sum.applyAsInt(machine));
        machine.planByRatios();
        machine.removeJob(0);
        check.fails("no job left", STATE, () -> sum.applyAsInt(machine));
        check.same("hasPlan()", machine.hasPlan(), false);
    }

    private static void maxLateness(Check check) {
        OneMachine machine = plannedSix();
        check.same("by due dates", machine.maxLateness(), 4);
        machine.planByRatios();
        check.same("by ratios", machine.maxLateness(), 9);
        machine.planPreemptiveShortest();
        check.same("preemptive", machine.maxLateness(), 15);
        OneMachine first = Machines.of(new int[][] {{9, 1}, {1, 100}, {1, 90}});
        first.planByDueDates();
        check.same("that of the first job", first.maxLateness(), 8);
    }

    private static void maxLatenessBelowZero(Check check) {
        OneMachine machine = Machines.of(new int[][] {{2, 9}, {2, 8}, {1, 300}});
        machine.planByDueDates();
        check.same("below 0", machine.maxLateness(), -5);
        OneMachine least = Machines.of(new int[][] {{1, 300}});
        least.planByDueDates();
        check.same("the lowest of all", least.maxLateness(), -299);
        OneMachine just = Machines.of(new int[][] {{2, 2}, {2, 300}});
        just.planByDueDates();
        check.same("0", just.maxLateness(), 0);
    }

    private static void lateJobs(Check check) {
        OneMachine machine = plannedSix();
        check.same("by due dates, of which one has a lateness of 0", machine.lateJobs(), 2);
        machine.planFewestLate();
        check.same("the fewest", machine.lateJobs(), 1);
        machine.planByFamilies();
        check.same("with setups", machine.lateJobs(), 4);
    }

    private static void lateJobsFromNoneToAll(Check check) {
        for (int late = 0; late <= 10; late++) {
            OneMachine machine = new OneMachine();
            for (int job = 0; job < 10; job++) {
                machine.addJob(1, job < late ? job : job + 1, 1, 0, 0);
            }
            machine.planByDueDates();
            check.same("of ten", machine.lateJobs(), late);
        }
    }

    private static void sumOfCompletions(Check check) {
        OneMachine machine = plannedSix();
        check.same("by due dates", machine.completions(), 24 + 5 + 17 + 2 + 30 + 9);
        machine.planByFamilies();
        check.same("with setups", machine.completions(), 28 + 6 + 21 + 3 + 39 + 13);
        check.same("with a job that is broken off", brokenOff().completions(), 9 + 12);
    }

    private static void sumOfCompletionsAtItsEnds(Check check) {
        OneMachine least = Machines.withJobs(1);
        least.planByDueDates();
        check.same("the least", least.completions(), 1);
        OneMachine latest = Machines.alike(10, new int[] {30, 0, 20, 100, 0});
        latest.planPreemptiveByDates();
        check.same("the greatest", latest.completions(), 1000 + 30 * 55);
    }

    private static void weightedCompletions(Check check) {
        OneMachine machine = plannedSix();
        check.same("by due dates", machine.weightedCompletions(), 3 * 24 + 5 * 5 + 2 * 17 + 8 * 2 + 30 + 4 * 9);
        machine.planByFamilies();
        check.same("with setups", machine.weightedCompletions(), 3 * 28 + 5 * 6 + 2 * 21 + 8 * 3 + 39 + 4 * 13);
        check.same("with a job that is broken off", brokenOff().weightedCompletions(), 2 * 9 + 3 * 12);
    }

    private static void weightedCompletionsAtTheirEnds(Check check) {
        OneMachine least = Machines.withJobs(1);
        least.planByDueDates();
        check.same("the least", least.weightedCompletions(), 1);
        OneMachine latest = Machines.alike(10, new int[] {30, 0, 20, 100, 0});
        latest.planPreemptiveByDates();
        check.same("the greatest", latest.weightedCompletions(), 20 * (1000 + 30 * 55));
    }

    private static void weightedTardiness(Check check) {
        OneMachine machine = plannedSix();
        check.same("by due dates", machine.weightedTardiness(), 3 * 4 + 2 * 2);
        machine.planByFamilies();
        check.same("with setups", machine.weightedTardiness(), 3 * 8 + 2 * 6 + 9 + 4 * 2);
        OneMachine one = brokenOff();
        check.same("none late", one.weightedTardiness(), 0);
    }

    private static void weightedTardinessAtItsEnds(Check check) {
        OneMachine early = Machines.of(new int[][] {{1, 300, 20}, {1, 300, 20}});
        early.planByDueDates();
        check.same("not below 0", early.weightedTardiness(), 0);
        OneMachine just = Machines.of(new int[][] {{30, 30, 20}, {1, 31, 20}});
        just.planByDueDates();
        check.same("0", just.weightedTardiness(), 0);
        OneMachine mixed = Machines.of(new int[][] {{2, 1, 1}, {1, 300, 20}});
        mixed.planByDueDates();
        check.same("an early job takes nothing off", mixed.weightedTardiness(), 1);
        OneMachine latest = Machines.alike(10, new int[] {30, 0, 20, 100, 0});
        latest.planPreemptiveByDates();
        check.same("the greatest", latest.weightedTardiness(), 20 * (1000 + 30 * 55));
    }
}
