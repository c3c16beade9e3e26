import java.util.function.ToIntFunction;

/** The sentences of the promises 7 to 13: the rules. What each rule plans is told in the terms. */
final class RulesSentences {
    private static final Class<IllegalStateException> STATE = IllegalStateException.class;
    private static final String NO_JOB = "Throws `IllegalStateException` if there is no job";

    private RulesSentences() {
    }

    static void test(Sentences said) {
        said.in("Promise 7: planByDueDates");
        said.that("Plans by due dates.", RulesSentences::byDueDates);
        said.that("Returns the greatest lateness.", RulesSentences::latenessByDueDates);
        said.that(NO_JOB, check -> needsJob(check, "planByDueDates"));
        said.in("Promise 8: planFewestLate");
        said.that("Plans with the fewest late jobs.", RulesSentences::fewestLate);
        said.that("Returns how many jobs were dropped.", RulesSentences::howManyDropped);
        said.that(NO_JOB, check -> needsJob(check, "planFewestLate"));
        said.in("Promise 9: planByRatios");
        said.that("Plans by ratios.", RulesSentences::byRatios);
        said.that("Returns the sum of weight times completion over all jobs.", RulesSentences::sumByRatios);
        said.that(NO_JOB, check -> needsJob(check, "planByRatios"));
        said.in("Promise 10: planLeastTardiness");
        said.that("Plans with the least tardiness.", RulesSentences::leastTardiness);
        said.that("Returns the sum of weight times tardiness over all jobs.", RulesSentences::sumOfTardiness);
        said.that(NO_JOB, check -> needsJob(check, "planLeastTardiness"));
        said.in("Promise 11: planByFamilies");
        said.that("Plans by families.", RulesSentences::byFamilies);
        said.that("Returns the greatest lateness.", RulesSentences::latenessByFamilies);
        said.that(NO_JOB, check -> needsJob(check, "planByFamilies"));
        said.in("Promise 12: planPreemptiveByDates");
        said.that("Plans with preemption by dates.", RulesSentences::preemptiveByDates);
        said.that("Returns the greatest lateness.", RulesSentences::latenessWithPreemption);
        said.that(NO_JOB, check -> needsJob(check, "planPreemptiveByDates"));
        said.in("Promise 13: planPreemptiveShortest");
        said.that("Plans with preemption, the shortest remaining length first.", RulesSentences::preemptiveShortest);
        said.that("Returns the sum of completions over all jobs.", RulesSentences::completionsWithPreemption);
        said.that(NO_JOB, check -> needsJob(check, "planPreemptiveShortest"));
    }

    private static void needsJob(Check check, String name) {
        ToIntFunction<OneMachine> rule = Machines.RULES.get(name);
        OneMachine none = new OneMachine();
        check.fails("a new object", STATE, () -> rule.applyAsInt(none));
        check.same("hasPlan() of a new object", none.hasPlan(), false);
        check.same("pieces() of a new object", none.pieces(), 0);
        OneMachine emptied = Machines.six();
        for (int left = 5; left >= 0; left--) {
            rule.applyAsInt(emptied);
            emptied.removeJob(left);
        }
        check.fails("all jobs removed", STATE, () -> rule.applyAsInt(emptied));
        check.same("hasPlan() with all removed", emptied.hasPlan(), false);
        check.same("setup times after a throw", emptied.setSetup(0, 0), 3);
        OneMachine one = Machines.of(new int[][] {{30, 300, 20, 0, 3}});
        rule.applyAsInt(one);
        check.planned("one job is enough", one, "j0:30");
        OneMachine ten = Machines.withJobs(10);
        rule.applyAsInt(ten);
        check.same("ten jobs are not too many", ten.pieces(), 10);
        check.same("the last of ten jobs ends", ten.endOf(9), 10);
    }

    // ---- by due dates

    private static void byDueDates(Check check) {
        OneMachine machine = Machines.six();
        machine.planByDueDates();
        check.planned("six jobs", machine, "j3:2 j1:5 j5:9 j2:17 j0:24 j4:30");
        OneMachine falling = new OneMachine();
        for (int job = 0; job < 10; job++) {
            falling.addJob(job + 1, 300 - job, 1, 0, 0);
        }
        falling.planByDueDates();
        check.planned("ten jobs", falling, "j9:10 j8:19 j7:27 j6:34 j5:40 j4:45 j3:49 j2:52 j1:54 j0:55");
    }

    private static void latenessByDueDates(Check check) {
        check.same("six jobs", Machines.six().planByDueDates(), 4);
        check.same("all early", Machines.of(new int[][] {{5, 9}, {2, 11}}).planByDueDates(), -4);
        check.same("the lowest of all", Machines.of(new int[][] {{1, 300}}).planByDueDates(), -299);
        check.same("just on time", Machines.of(new int[][] {{5, 5}, {1, 300}}).planByDueDates(), 0);
        check.same("the highest of all", Machines.alike(10, new int[] {30, 0, 20, 100, 3}).planByDueDates(), 300);
        check.same("not that of the last job", Machines.of(new int[][] {{9, 1}, {1, 100}}).planByDueDates(), 8);
    }

    // ---- fewest late

    private static void fewestLate(Check check) {
        OneMachine machine = Machines.six();
        machine.planFewestLate();
        check.planned("six jobs", machine, "j3:2 j1:5 j5:9 j0:16 j4:22 j2:30");
        check.same("late jobs", machine.lateJobs(), 1);
        OneMachine pairs = Machines.of(new int[][] {{5, 10}, {5, 10}, {5, 10}, {5, 10}});
        pairs.planFewestLate();
        check.planned("all alike", pairs, "j0:5 j1:10 j2:15 j3:20");
        OneMachine longest = Machines.of(new int[][] {{6, 8}, {3, 7}, {4, 4}, {4, 12}});
        longest.planFewestLate();
        check.planned("the longest is not the last", longest, "j2:4 j1:7 j3:11 j0:17");
        check.same("late jobs", longest.lateJobs(), 1);
    }

    private static void howManyDropped(Check check) {
        check.same("none", Machines.of(new int[][] {{2, 2}, {3, 5}}).planFewestLate(), 0);
        check.same("one of six", Machines.six().planFewestLate(), 1);
        check.same("one of one", Machines.of(new int[][] {{1, 0}}).planFewestLate(), 1);
        check.same("all of ten", Machines.alike(10, new int[] {1, 0, 1, 0, 0}).planFewestLate(), 10);
        check.same("none of ten", Machines.alike(10, new int[] {30, 300, 1, 0, 0}).planFewestLate(), 0);
        check.same("one of ten", Machines.alike(10, new int[] {30, 299, 1, 0, 0}).planFewestLate(), 1);
        check.same("two of four", Machines.of(new int[][] {{5, 10}, {5, 10}, {5, 10}, {5, 10}}).planFewestLate(), 2);
    }

    // ---- by ratios

    private static void byRatios(Check check) {
        OneMachine machine = Machines.six();
        machine.planByRatios();
        check.planned("six jobs", machine, "j3:2 j1:5 j5:9 j0:16 j2:24 j4:30");
        OneMachine ends = Machines.of(new int[][] {{30, 0, 1}, {1, 300, 20}, {30, 0, 20}, {1, 0, 1}});
        ends.planByRatios();
        check.planned("lengths and weights at their ends", ends, "j1:1 j3:2 j2:32 j0:62");
    }

    private static void sumByRatios(Check check) {
        check.same("six jobs", Machines.six().planByRatios(), 16 + 25 + 36 + 48 + 48 + 30);
        check.same("the least", Machines.of(new int[][] {{1, 300, 1, 100, 0}}).planByRatios(), 1);
        check.same("the greatest", Machines.alike(10, new int[] {30, 0, 20, 0, 0}).planByRatios(), 20 * 30 * 55);
    }

    // ---- least tardiness

    private static void leastTardiness(Check check) {
        OneMachine machine = Machines.six();
        machine.planLeastTardiness();
        check.planned("six jobs", machine, "j1:3 j3:5 j5:9 j2:17 j0:24 j4:30");
        OneMachine heavy = Machines.of(new int[][] {{4, 4, 1}, {4, 5, 9}});
        heavy.planLeastTardiness();
        check.planned("the weight matters", heavy, "j1:4 j0:8");
        OneMachine light = Machines.of(new int[][] {{4, 4, 9}, {4, 5, 1}});
        light.planLeastTardiness();
        check.planned("the other weight", light, "j0:4 j1:8");
        OneMachine ten = Machines.withJobs(10);
        ten.planLeastTardiness();
        check.planned("ten jobs", ten, "j0:1 j1:2 j2:3 j3:4 j4:5 j5:6 j6:7 j7:8 j8:9 j9:10");
    }

    private static void sumOfTardiness(Check check) {
        check.same("six jobs", Machines.six().planLeastTardiness(), 3 * 4 + 2 * 2);
        check.same("none late", Machines.of(new int[][] {{1, 300, 20}, {1, 2, 9}}).planLeastTardiness(), 0);
        check.same("just on time", Machines.of(new int[][] {{4, 4, 20}}).planLeastTardiness(), 0);
        check.same("late by 1", Machines.of(new int[][] {{5, 4, 20}}).planLeastTardiness(), 20);
        check.same("two", Machines.of(new int[][] {{4, 4, 1}, {4, 5, 9}}).planLeastTardiness(), 4);
        int[] dearest = {30, 0, 20, 0, 0};
        check.same("the greatest", Machines.alike(10, dearest).planLeastTardiness(), 20 * 30 * 55);
    }

    // ---- by families

    private static void byFamilies(Check check) {
        OneMachine machine = Machines.six();
        machine.planByFamilies();
        check.planned("six jobs", machine, "s1:1 j3:3 j1:6 s0:9 j5:13 j2:21 j0:28 s2:33 j4:39");
        OneMachine pairs = Machines.of(new int[][] {{5, 10, 2, 0, 0}, {5, 10, 2, 0, 1}, {5, 10, 2, 0, 0},
            {5, 10, 2, 0, 1}});
        pairs.setSetup(0, 2);
        pairs.setSetup(1, 2);
        pairs.planByFamilies();
        check.planned("two families", pairs, "s0:2 j0:7 j2:12 s1:14 j1:19 j3:24");
    }

    private static void latenessByFamilies(Check check) {
        check.same("six jobs", Machines.six().planByFamilies(), 9);
        OneMachine early = Machines.of(new int[][] {{1, 300, 1, 100, 3}});
        check.same("the lowest of all", early.planByFamilies(), -299);
        early.setSetup(3, 20);
        check.same("with a setup", early.planByFamilies(), -279);
        OneMachine late = new OneMachine();
        for (int job = 0; job < 10; job++) {
            late.addJob(30, 0, 1, 0, job % 4);
        }
        for (int family = 0; family < 4; family++) {
            late.setSetup(family, 20);
        }
        check.same("the highest of all", late.planByFamilies(), 380);
    }

    // ---- preemptive by dates

    private static OneMachine gaps() {
        OneMachine machine = Machines.of(new int[][] {{10, 40, 1, 5}, {3, 12, 1, 8}, {2, 50, 1, 8}, {4, 60, 1, 40},
            {1, 300, 1, 5}});
        machine.setSetup(0, 9);
        return machine;
    }

    private static void preemptiveByDates(Check check) {
        OneMachine machine = gaps();
        machine.planPreemptiveByDates();
        check.planned("idle at first and between", machine, "-:5 j0:8 j1:11 j0:18 j2:20 j4:21 -:40 j3:44");
        OneMachine most = new OneMachine();
        for (int job = 0; job < 10; job++) {
            most.addJob(30 - 2 * job, 300 - job, 1, job + 1, 0);
        }
        most.planPreemptiveByDates();
        check.same("the most pieces", most.pieces(), 20);
        check.planned("each one is broken off by the next", most, "-:1 j0:2 j1:3 j2:4 j3:5 j4:6 j5:7 j6:8 j7:9 j8:10"
                + " j9:22 j8:35 j7:50 j6:67 j5:86 j4:107 j3:130 j2:155 j1:182 j0:211");
    }

    private static void latenessWithPreemption(Check check) {
        check.same("early", gaps().planPreemptiveByDates(), -1);
        check.same("six jobs", Machines.six().planPreemptiveByDates(), 5);
        check.same("just on time", Machines.of(new int[][] {{5, 12, 1, 7}}).planPreemptiveByDates(), 0);
        check.same("the lowest of all", Machines.of(new int[][] {{1, 300}}).planPreemptiveByDates(), -299);
        int[] latest = {30, 0, 20, 100, 3};
        check.same("the highest of all", Machines.alike(10, latest).planPreemptiveByDates(), 400);
    }

    // ---- preemptive shortest

    private static void preemptiveShortest(Check check) {
        OneMachine machine = gaps();
        machine.planPreemptiveShortest();
        check.planned("the least remaining length", machine, "-:5 j4:6 j0:8 j2:10 j1:13 j0:21 -:40 j3:44");
        OneMachine most = new OneMachine();
        for (int job = 0; job < 10; job++) {
            most.addJob(30 - 2 * job, 0, 1, job + 1, 0);
        }
        most.planPreemptiveShortest();
        check.same("the most pieces", most.pieces(), 20);
        check.planned("each one is broken off by the next", most, "-:1 j0:2 j1:3 j2:4 j3:5 j4:6 j5:7 j6:8 j7:9 j8:10"
                + " j9:22 j8:35 j7:50 j6:67 j5:86 j4:107 j3:130 j2:155 j1:182 j0:211");
    }

    private static void completionsWithPreemption(Check check) {
        check.same("idle at first and between", gaps().planPreemptiveShortest(), 21 + 13 + 10 + 44 + 6);
        check.same("six jobs", Machines.six().planPreemptiveShortest(), 97);
        check.same("weights do not matter", Machines.of(new int[][] {{5, 90, 7, 50, 0}}).planPreemptiveShortest(), 55);
        check.same("the least", Machines.of(new int[][] {{1, 0}}).planPreemptiveShortest(), 1);
        int[] latest = {30, 0, 20, 100, 3};
        check.same("the greatest", Machines.alike(10, latest).planPreemptiveShortest(), 1000 + 30 * 55);
    }
}
