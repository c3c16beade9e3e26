import java.util.function.Consumer;
import java.util.function.ToIntFunction;

/** The sentences of the terms, and the one on how many calls an object is used for. */
final class TermsSentences {
    private static final Class<IllegalArgumentException> ARGUMENT = IllegalArgumentException.class;
    private static final Class<IllegalStateException> STATE = IllegalStateException.class;
    private static final Class<IndexOutOfBoundsException> INDEX = IndexOutOfBoundsException.class;

    private TermsSentences() {
    }

    static void test(Sentences said) {
        said.in("What it is");
        said.that("An object is used for at most 512 calls after it has been made; what later calls answer is free.",
                TermsSentences::lastCall);
        said.in("Terms");
        said.that("A rule makes a plan and returns what it costs; the plan is then asked piece by piece.",
                TermsSentences::costs);
        said.that("Each rule can be held against a second way, which tries all orders, all sets or all windows.",
                TermsSentences::secondWays);
        said.that("There are no texts and no clock; the jobs are told by calls, and a plan lasts until a job or a"
                + " setup time is changed.", TermsSentences::planLasts);
        testRanges(said);
        testPlans(said);
        testRulesInARow(said);
        testRulesWithReleases(said);
        testCalls(said);
    }

    private static void testRanges(Sentences said) {
        said.that("Jobs are numbered from 0 on; there are at most 10.", TermsSentences::numbers);
        said.that("A job has a length, 1 to 30, a due date, 0 to 300, a weight, 1 to 20, a release date, 0 to 100,"
                + " and a family, 0 to 3.", TermsSentences::ranges);
        said.that("Each family has a setup time, 0 to 20, at first 0.", TermsSentences::setupTimes);
        said.that("Times are whole numbers from 0 on.", TermsSentences::times);
    }

    private static void testPlans(Sentences said) {
        said.that("Plans. The machine does one thing at a time.", TermsSentences::oneThing);
        said.that("A plan is a row of pieces, each with a start and an end, the first one from the time 0 on, each"
                + " further one from the end of the one ahead of it.", TermsSentences::row);
        said.that("A piece is a job, the setup of a family, or idle; pieces that take no time are left out, and two"
                + " neighbouring pieces are never the same job, nor both idle.", TermsSentences::leftOutOrJoined);
        said.that("The completion of a job is the end of its last piece.", TermsSentences::completion);
        said.that("Its lateness is its completion less its due date; it is late, if that is above 0; its tardiness is"
                + " its lateness, but at least 0.", TermsSentences::lateness);
    }

    private static void testRulesInARow(Sentences said) {
        said.that("By due dates: the jobs one after the other, by rising due dates, of several with the same one by"
                + " rising numbers.", TermsSentences::byDueDates);
        said.that("Release dates, families and setups do not matter for this rule and the next three.",
                TermsSentences::doNotMatter);
        said.that("Fewest late: jobs are taken in the order by due dates, one after the other; whenever the sum of the"
                + " lengths of those taken is above the due date of the job taken last, the longest of those taken is"
                + " dropped, of several as long the one with the highest number.", TermsSentences::dropping);
        said.that("The plan has the jobs that are still taken, by due dates, and behind them those that were dropped,"
                + " in the order in which they were dropped.", TermsSentences::droppedBehind);
        said.that("By ratios: the jobs by falling ratios of weight and length, of several with the same ratio by"
                + " rising numbers.", TermsSentences::byRatios);
        said.that("Least tardiness: an order with the least sum of weight times tardiness over all jobs; of several"
                + " such orders the first one, when orders are compared by the number of the first job in which they"
                + " differ.", TermsSentences::leastTardiness);
        said.that("By families: setups matter, release dates do not.", TermsSentences::setupsMatter);
        said.that("Ahead of each job whose family is not that of the job ahead of it, and ahead of the first job,"
                + " comes the setup of its family.", TermsSentences::setupsAhead);
        said.that("The jobs of each family stand in the order by due dates; of all such orders one with the least"
                + " greatest lateness is chosen, of several the first one, compared as above.",
                TermsSentences::firstOfTheBest);
    }

    private static void testRulesWithReleases(Sentences said) {
        said.that("Preemptive by dates: release dates matter, families and setups do not.",
                TermsSentences::releasesMatter);
        said.that("At each time, of the jobs that are released by then and not done, the one that comes first in the"
                + " order by due dates is worked on; without one the machine is idle.",
                TermsSentences::preemptiveByDates);
        said.that("Preemptive shortest: the same, but the job with the least remaining length is worked on, of several"
                + " the one with the lowest number.", TermsSentences::preemptiveShortest);
        said.that("Priorities. An order of jobs also stands for a preemptive plan: at each time, of the jobs that are"
                + " released by then and not done, the first one in the order is worked on.",
                TermsSentences::priorities);
        said.that("Windows. A window has a release date r and a due date d of jobs (not always the same job), and at"
                + " least one job with a release date of at least r and a due date of at most d; its bound is r and"
                + " the lengths of all these jobs, together, less d.", TermsSentences::windows);
    }

    private static void testCalls(Sentences said) {
        said.that("A call that throws an exception changes nothing.", TermsSentences::throwsChangeNothing);
        said.that("If several exceptions apply, the one that is named first in the throws clause is thrown.",
                TermsSentences::firstNamedException);
        said.that("---- jobs; each of these calls drops the plan, also if nothing is different by it.",
                TermsSentences::dropsThePlan);
        said.that("---- rules; each makes a plan in place of the one before.", TermsSentences::inPlace);
        said.that("---- the plan; nothing from here on changes anything.", TermsSentences::asksChangeNothing);
        said.that("---- second ways.", TermsSentences::secondWaysChangeNothing);
    }

    private static OneMachine planned(String rule, OneMachine machine) {
        Machines.RULES.get(rule).applyAsInt(machine);
        return machine;
    }

    private static void plans(Check check, String what, String rule, int[][] jobs, String due) {
        check.planned(what, planned(rule, Machines.of(jobs)), due);
    }

    // ---- what it is

    private static void lastCall(Check check) {
        for (int last = 0; last < 3; last++) {
            OneMachine machine = Machines.six();
            // Nine calls told the jobs and the setup times.
            for (int call = 10; call < 511; call++) {
                checkCall(check, machine, call % 3);
            }
            machine.planPreemptiveByDates();
            checkCall(check, machine, last);
        }
    }

    private static void checkCall(Check check, OneMachine machine, int which) {
        if (which == 0) {
            check.same("planByFamilies()", machine.planByFamilies(), 9);
        } else if (which == 1) {
            check.same("setSetup(0, 3)", machine.setSetup(0, 3), 3);
        } else {
            check.fails("completion(6)", INDEX, () -> machine.completion(6));
        }
    }

    private static void costs(Check check) {
        OneMachine machine = Machines.six();
        check.same("planByDueDates()", machine.planByDueDates(), machine.maxLateness());
        check.same("planFewestLate()", machine.planFewestLate(), machine.lateJobs());
        check.same("planByRatios()", machine.planByRatios(), machine.weightedCompletions());
        check.same("planLeastTardiness()", machine.planLeastTardiness(), machine.weightedTardiness());
        check.same("planByFamilies()", machine.planByFamilies(), machine.maxLateness());
        check.same("planPreemptiveByDates()", machine.planPreemptiveByDates(), machine.maxLateness());
        check.same("planPreemptiveShortest()", machine.planPreemptiveShortest(), machine.completions());
        check.planned("asked piece by piece", machine, "j0:7 j1:10 j3:12 j5:16 j4:22 j2:30");
    }

    private static void secondWays(Check check) {
        OneMachine machine = Machines.six();
        check.same("by due dates", machine.planByDueDates(), machine.leastLateness());
        check.same("by due dates, by windows", machine.planByDueDates(), machine.windowBound(false));
        check.same("fewest late", machine.planFewestLate(), machine.fewestLateBySets());
        check.same("by ratios", machine.planByRatios(), machine.leastCompletions());
        check.same("least tardiness", machine.planLeastTardiness(), machine.leastTardiness());
        check.same("by families", machine.planByFamilies(), machine.leastWithSetups());
        check.same("preemptive by dates", machine.planPreemptiveByDates(), machine.leastPreemptiveLateness());
        check.same("preemptive by dates, by windows", machine.planPreemptiveByDates(), machine.windowBound(true));
        check.same("preemptive shortest", machine.planPreemptiveShortest(), machine.leastPreemptiveCompletions());
    }

    private static void planLasts(Check check) {
        OneMachine machine = planned("planByFamilies", Machines.six());
        String first = Machines.asked(machine);
        check.same("asked twice", Machines.asked(machine), first);
        check.same("asked three times", Machines.asked(machine), first);
        machine.changeJob(0, 7, 20, 3, 1, 0);
        check.same("with a job changed", machine.hasPlan(), false);
        machine.planByFamilies();
        machine.setSetup(3, 1);
        check.same("with a setup time changed", machine.hasPlan(), false);
    }

    // ---- ranges

    private static void numbers(Check check) {
        OneMachine machine = new OneMachine();
        for (int job = 0; job < 10; job++) {
            check.same("addJob", machine.addJob(1, 300 - job, 1, 0, 0), job);
        }
        check.fails("an eleventh", STATE, () -> machine.addJob(1, 1, 1, 0, 0));
        check.same("jobs()", machine.jobs(), 10);
        machine.planByDueDates();
        for (int job = 0; job < 10; job++) {
            check.same("completion(" + job + ")", machine.completion(job), 10 - job);
        }
        check.fails("the number 10", INDEX, () -> machine.completion(10));
        check.fails("the number -1", INDEX, () -> machine.completion(-1));
    }

    private static void ranges(Check check) {
        int[] low = {1, 0, 1, 0, 0};
        int[] high = {30, 300, 20, 100, 3};
        OneMachine machine = new OneMachine();
        check.same("all low", Machines.add(machine, low), 0);
        check.same("all high", Machines.add(machine, high), 1);
        for (int which = 0; which < 5; which++) {
            int[] lower = low.clone();
            int[] higher = high.clone();
            lower[which]--;
            higher[which]++;
            check.fails("number " + which + " is too low", ARGUMENT, () -> Machines.add(machine, lower));
            check.fails("number " + which + " is too high", ARGUMENT, () -> Machines.add(machine, higher));
            check.fails("changed, number " + which + " is too low", ARGUMENT,
                    () -> Machines.change(machine, 0, lower));
            check.fails("changed, number " + which + " is too high", ARGUMENT,
                    () -> Machines.change(machine, 0, higher));
        }
        check.same("jobs()", machine.jobs(), 2);
        machine.planPreemptiveByDates();
        check.planned("as they were told", machine, "j0:1 -:100 j1:130");
        check.same("completions by weight", machine.weightedCompletions(), 1 + 20 * 130);
    }

    private static void setupTimes(Check check) {
        OneMachine machine = new OneMachine();
        for (int family = 0; family < 4; family++) {
            int one = family;
            check.same("at first", machine.setSetup(family, 20), 0);
            check.same("the highest", machine.setSetup(family, 0), 20);
            check.same("the lowest", machine.setSetup(family, 10 + family), 0);
            check.fails("too high", ARGUMENT, () -> machine.setSetup(one, 21));
            check.fails("too low", ARGUMENT, () -> machine.setSetup(one, -1));
        }
        for (int family = 0; family < 4; family++) {
            check.same("each one has its own", machine.setSetup(family, 0), 10 + family);
        }
    }

    private static void times(Check check) {
        OneMachine machine = Machines.of(new int[][] {{1, 0}});
        check.fails("a due date ahead of 0", ARGUMENT, () -> machine.addJob(1, -1, 1, 0, 0));
        check.fails("a release ahead of 0", ARGUMENT, () -> machine.addJob(1, 0, 1, -1, 0));
        machine.planPreemptiveByDates();
        check.same("a release at 0", machine.startOf(0), 0);
        check.same("late at 1, if due at 0", machine.lateness(0), 1);
    }

    // ---- plans

    private static void oneThing(Check check) {
        Machines.RULES.forEach((name, rule) -> {
            OneMachine machine = planned(name, Machines.six());
            int[] worked = new int[6];
            for (int piece = 0; piece < machine.pieces(); piece++) {
                if (machine.kindOf(piece) == 0) {
                    worked[machine.whoseIs(piece)] += machine.endOf(piece) - machine.startOf(piece);
                }
                for (int other = 0; other < piece; other++) {
                    check.same(name + " does two things", machine.startOf(piece) < machine.endOf(other), false);
                }
            }
            int[] lengths = {7, 3, 8, 2, 6, 4};
            for (int job = 0; job < 6; job++) {
                check.same(name + " works on " + job, worked[job], lengths[job]);
            }
        });
    }

    private static void row(Check check) {
        int[][] two = {{3, 4}, {5, 9}};
        plans(check, "from the time 0 on", "planByDueDates", two, "j0:3 j1:8");
        plans(check, "from the time 0 on", "planPreemptiveByDates", two, "j0:3 j1:8");
        check.planned("from the time 0 on, with a setup", withSetups(two, 4), "s0:4 j0:7 j1:12");
        Machines.RULES.forEach((name, rule) -> {
            for (OneMachine machine : new OneMachine[] {Machines.six(), releasedLate(), Machines.withJobs(10)}) {
                rule.applyAsInt(machine);
                check.same(name + ", the first start", machine.startOf(0), 0);
                for (int piece = 0; piece < machine.pieces(); piece++) {
                    check.same(name + " takes time", machine.endOf(piece) > machine.startOf(piece), true);
                    check.same(name + ", the start of a further one", machine.startOf(piece),
                            piece == 0 ? 0 : machine.endOf(piece - 1));
                }
            }
        });
    }

    private static OneMachine releasedLate() {
        OneMachine machine = Machines.of(new int[][] {{3, 9, 1, 7, 3}, {2, 9, 1, 40, 2}, {4, 8, 1, 8, 3}});
        machine.setSetup(3, 20);
        return machine;
    }

    private static void leftOutOrJoined(Check check) {
        int[][] turns = {{1, 1, 1, 0, 0}, {1, 2, 1, 0, 1}, {1, 3, 1, 0, 0}};
        plans(check, "setups of no time are left out", "planByFamilies", turns, "j0:1 j1:2 j2:3");
        OneMachine one = Machines.of(turns);
        one.setSetup(1, 2);
        check.planned("others are not", planned("planByFamilies", one), "j0:1 s1:3 j1:4 j2:5");
        int[][] onTime = {{3, 50}, {2, 10, 1, 3}, {2, 10, 1, 5}};
        plans(check, "no idle piece of no time", "planPreemptiveByDates", onTime, "j0:3 j1:5 j2:7");
        int[][] goesOn = {{5, 9}, {5, 90, 1, 2}, {5, 80, 1, 3}};
        plans(check, "never the same job twice", "planPreemptiveByDates", goesOn, "j0:5 j2:10 j1:15");
        plans(check, "never the same job twice", "planPreemptiveShortest", goesOn, "j0:5 j1:10 j2:15");
        int[][] idle = {{3, 9, 1, 7}, {3, 8, 1, 9}, {1, 9, 1, 50}};
        plans(check, "never idle twice", "planPreemptiveByDates", idle, "-:7 j0:9 j1:12 j0:13 -:50 j2:51");
        plans(check, "never idle twice", "planPreemptiveShortest", idle, "-:7 j0:10 j1:13 -:50 j2:51");
    }

    private static void completion(Check check) {
        OneMachine machine = planned("planPreemptiveByDates",
                Machines.of(new int[][] {{10, 40, 1, 5}, {3, 12, 1, 8}, {1, 9, 1, 6}}));
        check.planned("the plan", machine, "-:5 j0:6 j2:7 j0:8 j1:11 j0:19");
        check.same("of three pieces", machine.completion(0), 19);
        check.same("of one piece", machine.completion(1), 11);
        check.same("of one piece", machine.completion(2), 7);
        machine.planByDueDates();
        check.same("earlier in another plan", machine.completion(0), 14);
        check.same("earlier in another plan", machine.completion(1), 4);
        check.same("earlier in another plan", machine.completion(2), 1);
    }

    private static void lateness(Check check) {
        for (int due = 0; due <= 10; due++) {
            OneMachine machine = planned("planByDueDates", Machines.of(new int[][] {{5, due, 7}}));
            check.same("lateness(0)", machine.lateness(0), 5 - due);
            check.same("lateJobs()", machine.lateJobs(), due < 5 ? 1 : 0);
            check.same("weightedTardiness()", machine.weightedTardiness(), due < 5 ? 7 * (5 - due) : 0);
        }
    }

    // ---- rules in a row

    private static void byDueDates(Check check) {
        String rule = "planByDueDates";
        plans(check, "falling", rule, new int[][] {{1, 300}, {2, 299}, {3, 1}, {4, 0}}, "j3:4 j2:7 j1:9 j0:10");
        plans(check, "of several with the same one", rule, new int[][] {{2, 9}, {3, 5}, {1, 9}, {4, 5}},
                "j1:3 j3:7 j0:9 j2:10");
        check.planned("all with the same one", planned(rule, Machines.alike(10, new int[] {2, 7, 1, 0, 0})),
                "j0:2 j1:4 j2:6 j3:8 j4:10 j5:12 j6:14 j7:16 j8:18 j9:20");
        plans(check, "lengths and weights do not matter", rule, new int[][] {{30, 7, 1}, {1, 7, 20}}, "j0:30 j1:31");
    }

    private static void doNotMatter(Check check) {
        for (String rule : new String[] {"planByDueDates", "planFewestLate", "planByRatios", "planLeastTardiness"}) {
            OneMachine machine = Machines.six();
            OneMachine plain = Machines.sixPlain();
            ToIntFunction<OneMachine> plan = Machines.RULES.get(rule);
            check.same(rule + " costs as much", plan.applyAsInt(machine), plan.applyAsInt(plain));
            check.planned(rule + " plans the same", machine, Machines.pieces(plain));
            OneMachine late = Machines.of(new int[][] {{3, 9, 1, 100, 3}});
            late.setSetup(3, 20);
            check.planned(rule + " of a job that is released late", planned(rule, late), "j0:3");
        }
    }

    private static void dropping(Check check) {
        String rule = "planFewestLate";
        plans(check, "the sum is just the due date", rule, new int[][] {{2, 2}, {3, 5}}, "j0:2 j1:5");
        plans(check, "the sum is 1 above", rule, new int[][] {{3, 3}, {2, 4}}, "j1:2 j0:5");
        plans(check, "the longest is the one taken last", rule, new int[][] {{2, 3}, {3, 4}, {1, 5}},
                "j0:2 j2:3 j1:6");
        plans(check, "of several as long the highest number", rule, new int[][] {{5, 10}, {5, 10}, {5, 10}},
                "j0:5 j1:10 j2:15");
        plans(check, "also if it was taken first", rule, new int[][] {{5, 9}, {5, 8}}, "j0:5 j1:10");
        plans(check, "it is not the first one's due date", rule, new int[][] {{4, 4}, {4, 300}}, "j0:4 j1:8");
        plans(check, "dropped ones stay dropped", rule, new int[][] {{9, 9}, {2, 10}, {8, 11}, {1, 11}},
                "j1:2 j2:10 j3:11 j0:20");
        plans(check, "not one that is not taken yet", rule, new int[][] {{3, 3}, {2, 4}, {9, 300}},
                "j1:2 j2:11 j0:14");
        plans(check, "not one that was dropped", rule, new int[][] {{9, 9}, {5, 10}, {6, 10}}, "j1:5 j0:14 j2:20");
        plans(check, "one that is late alone", rule, new int[][] {{5, 4}, {4, 4}}, "j1:4 j0:9");
    }

    private static void droppedBehind(Check check) {
        String rule = "planFewestLate";
        plans(check, "dropped not by numbers", rule, new int[][] {{2, 1}, {3, 0}}, "j1:3 j0:5");
        plans(check, "dropped not by due dates", rule, new int[][] {{4, 4}, {5, 5}, {2, 5}}, "j2:2 j1:7 j0:11");
        plans(check, "dropped not by lengths", rule, new int[][] {{1, 0}, {9, 1}}, "j0:1 j1:10");
        plans(check, "taken by due dates", rule, new int[][] {{1, 30}, {9, 8}, {1, 20}, {1, 10}},
                "j3:1 j2:2 j0:3 j1:12");
        check.planned("all ten", planned(rule, Machines.alike(10, new int[] {2, 1, 1, 0, 0})),
                "j0:2 j1:4 j2:6 j3:8 j4:10 j5:12 j6:14 j7:16 j8:18 j9:20");
    }

    private static void byRatios(Check check) {
        String rule = "planByRatios";
        plans(check, "falling", rule, new int[][] {{4, 0, 1}, {4, 0, 2}, {4, 0, 3}}, "j2:4 j1:8 j0:12");
        plans(check, "falling by lengths", rule, new int[][] {{6, 0, 3}, {5, 0, 3}, {4, 0, 3}}, "j2:4 j1:9 j0:15");
        plans(check, "the same ratio", rule, new int[][] {{4, 0, 2}, {3, 0, 1}, {2, 0, 1}, {6, 0, 2}, {30, 0, 15}},
                "j0:4 j2:6 j4:36 j1:39 j3:45");
        plans(check, "17 / 26 is just below 19 / 29", rule, new int[][] {{26, 0, 17}, {29, 0, 19}}, "j1:29 j0:55");
        plans(check, "11 / 12 is just below 12 / 13", rule, new int[][] {{12, 0, 11}, {13, 0, 12}}, "j1:13 j0:25");
        plans(check, "above 1 too", rule, new int[][] {{13, 0, 19}, {15, 0, 20}, {12, 0, 17}},
                "j0:13 j2:25 j1:40");
        plans(check, "due dates do not matter", rule, new int[][] {{2, 300, 2}, {2, 0, 2}}, "j0:2 j1:4");
    }

    private static void leastTardiness(Check check) {
        String rule = "planLeastTardiness";
        plans(check, "the least sum", rule, new int[][] {{3, 4, 1}, {4, 5, 3}, {2, 6, 2}}, "j1:4 j2:6 j0:9");
        plans(check, "of several the first one", rule, new int[][] {{1, 300}, {1, 200}, {1, 2}}, "j0:1 j2:2 j1:3");
        plans(check, "the first number counts most", rule, new int[][] {{10, 300}, {2, 4}, {2, 4}},
                "j1:2 j2:4 j0:14");
        plans(check, "late anyway", rule, new int[][] {{2, 0, 1}, {2, 0, 1}, {4, 0, 2}}, "j0:2 j1:4 j2:8");
        plans(check, "six jobs", rule, new int[][] {{7, 20, 3}, {3, 9, 5}, {8, 15, 2}, {2, 6, 8}, {6, 30, 1},
            {4, 11, 4}}, "j1:3 j3:5 j5:9 j2:17 j0:24 j4:30");
        check.planned("ten jobs alike", planned(rule, Machines.alike(10, new int[] {3, 7, 2, 0, 0})),
                "j0:3 j1:6 j2:9 j3:12 j4:15 j5:18 j6:21 j7:24 j8:27 j9:30");
    }

    private static OneMachine withSetups(int[][] jobs, int... times) {
        OneMachine machine = Machines.of(jobs);
        for (int family = 0; family < times.length; family++) {
            machine.setSetup(family, times[family]);
        }
        return planned("planByFamilies", machine);
    }

    private static void setupsMatter(Check check) {
        int[][] released = {{3, 9, 1, 100, 0}, {2, 8, 1, 50, 1}};
        check.planned("release dates do not", withSetups(released, 0, 0), "j1:2 j0:5");
        check.planned("setups matter", withSetups(released, 4, 5), "s1:5 j1:7 s0:11 j0:14");
        check.planned("and other ones", withSetups(released, 0, 4), "s1:4 j1:6 j0:9");
    }

    private static void setupsAhead(Check check) {
        int[][] oneFamily = {{1, 1, 1, 0, 2}, {1, 2, 1, 0, 2}, {1, 3, 1, 0, 2}};
        check.planned("one family", withSetups(oneFamily, 9, 9, 20, 9), "s2:20 j0:21 j1:22 j2:23");
        int[][] fourFamilies = {{1, 0, 1, 0, 3}, {1, 20, 1, 0, 2}, {1, 40, 1, 0, 1}, {1, 60, 1, 0, 0}};
        check.planned("four families", withSetups(fourFamilies, 1, 2, 3, 4),
                "s3:4 j0:5 s2:8 j1:9 s1:11 j2:12 s0:13 j3:14");
        int[][] turns = {{2, 20, 1, 0, 0}, {2, 2, 1, 0, 1}, {2, 20, 1, 0, 0}, {2, 20, 1, 0, 1}};
        check.planned("once more behind another family", withSetups(turns, 1, 3),
                "s1:3 j1:5 s0:6 j0:8 j2:10 s1:13 j3:15");
        int[][] apart = new int[10][];
        for (int job = 0; job < 10; job++) {
            apart[job] = new int[] {1, 30 * job, 1, 0, job % 2};
        }
        check.planned("ahead of each of ten jobs", withSetups(apart, 1, 1), "s0:1 j0:2 s1:3 j1:4 s0:5 j2:6 s1:7 j3:8"
                + " s0:9 j4:10 s1:11 j5:12 s0:13 j6:14 s1:15 j7:16 s0:17 j8:18 s1:19 j9:20");
    }

    private static void firstOfTheBest(Check check) {
        int[][] family = {{2, 30, 1, 0, 0}, {3, 20, 1, 0, 0}, {4, 20, 1, 0, 0}, {1, 10, 1, 0, 0}};
        check.planned("by due dates in a family", withSetups(family, 5), "s0:5 j3:6 j1:9 j2:13 j0:15");
        int[][] late = {{1, 100, 1, 0, 0}, {1, 100, 1, 0, 1}, {9, 0, 1, 0, 2}, {1, 90, 1, 0, 0}};
        check.planned("the first that is no later", withSetups(late, 0, 0), "j2:9 j1:10 j3:11 j0:12");
        int[][] pairs = {{5, 10, 2, 0, 0}, {5, 10, 2, 0, 1}, {5, 10, 2, 0, 0}, {5, 10, 2, 0, 1}};
        check.planned("the least greatest lateness", withSetups(pairs, 2, 2), "s0:2 j0:7 j2:12 s1:14 j1:19 j3:24");
        int[][] swapped = {{5, 10, 2, 0, 1}, {5, 10, 2, 0, 0}, {5, 10, 2, 0, 1}, {5, 10, 2, 0, 0}};
        check.planned("the number counts, not the family", withSetups(swapped, 2, 2),
                "s1:2 j0:7 j2:12 s0:14 j1:19 j3:24");
        int[][] slack = {{1, 300, 1, 0, 3}, {1, 300, 1, 0, 2}, {1, 300, 1, 0, 3}, {9, 0, 1, 0, 0}};
        check.planned("turns where they cost nothing", withSetups(slack, 0, 0, 7, 6),
                "j3:9 s3:15 j0:16 s2:23 j1:24 s3:30 j2:31");
    }

    // ---- rules with releases

    private static void releasesMatter(Check check) {
        int[][] jobs = {{3, 9, 1, 4, 0}, {2, 8, 1, 5, 1}};
        OneMachine machine = Machines.of(jobs);
        machine.setSetup(0, 20);
        machine.setSetup(1, 20);
        check.planned("release dates matter, setups do not", planned("planPreemptiveByDates", machine),
                "-:4 j0:5 j1:7 j0:9");
        machine.changeJob(1, 2, 8, 1, 4, 0);
        check.planned("another release date", planned("planPreemptiveByDates", machine), "-:4 j1:6 j0:9");
        OneMachine six = planned("planPreemptiveByDates", Machines.six());
        check.planned("six jobs", six, Machines.pieces(planned("planPreemptiveByDates", sixOfOneFamily())));
    }

    private static OneMachine sixOfOneFamily() {
        return Machines.of(new int[][] {{7, 20, 3, 0}, {3, 9, 5, 4}, {8, 15, 2, 0}, {2, 6, 8, 9}, {6, 30, 1, 2},
            {4, 11, 4, 12}});
    }

    private static void preemptiveByDates(Check check) {
        String rule = "planPreemptiveByDates";
        plans(check, "broken off, idle at first and between", rule,
                new int[][] {{10, 40, 1, 5}, {3, 12, 1, 8}, {2, 50, 1, 8}, {4, 60, 1, 40}},
                "-:5 j0:8 j1:11 j0:18 j2:20 -:40 j3:44");
        plans(check, "of the same due date the lowest number", rule, new int[][] {{4, 9, 1, 3}, {7, 9}, {2, 9, 1, 4}},
                "j1:3 j0:7 j1:11 j2:13");
        plans(check, "released when the one ahead is done", rule, new int[][] {{3, 50}, {2, 10, 1, 3}}, "j0:3 j1:5");
        plans(check, "released 1 ahead of that", rule, new int[][] {{3, 50}, {2, 10, 1, 2}}, "j0:2 j1:4 j0:5");
        plans(check, "released 1 behind that", rule, new int[][] {{3, 50}, {2, 10, 1, 4}}, "j0:3 -:4 j1:6");
        plans(check, "at the last release date", rule, new int[][] {{30, 300, 1, 100}}, "-:100 j0:130");
        plans(check, "lengths do not matter", rule, new int[][] {{9, 10}, {1, 11}, {2, 11}}, "j0:9 j1:10 j2:12");
    }

    private static void preemptiveShortest(Check check) {
        String rule = "planPreemptiveShortest";
        plans(check, "broken off, idle at first and between", rule,
                new int[][] {{10, 40, 1, 5}, {3, 12, 1, 8}, {2, 50, 1, 8}, {4, 60, 1, 40}},
                "-:5 j0:8 j2:10 j1:13 j0:20 -:40 j3:44");
        plans(check, "of several the lowest number", rule, new int[][] {{4, 9, 1, 3}, {7, 9}, {2, 9, 1, 4}},
                "j1:3 j0:4 j2:6 j0:9 j1:13");
        plans(check, "as long as what remains, with a higher number", rule, new int[][] {{6, 9}, {4, 1, 1, 2}},
                "j0:6 j1:10");
        plans(check, "as long as what remains, with a lower number", rule, new int[][] {{4, 9, 1, 2}, {6, 1}},
                "j1:2 j0:6 j1:10");
        plans(check, "1 shorter than what remains", rule, new int[][] {{6, 9}, {3, 300, 1, 2}}, "j0:2 j1:5 j0:9");
        plans(check, "what remains, not the length", rule, new int[][] {{9, 9}, {5, 0, 1, 5}}, "j0:9 j1:14");
        plans(check, "also behind a lower number", rule, new int[][] {{5, 0, 1, 5}, {9, 9}}, "j1:9 j0:14");
        plans(check, "what remains of one that was broken off", rule, new int[][] {{3, 9, 1, 4}, {8, 9}, {5, 9, 1, 5}},
                "j1:4 j0:7 j1:11 j2:16");
        plans(check, "due dates and weights do not matter", rule, new int[][] {{5, 300, 1}, {6, 0, 20}}, "j0:5 j1:11");
        plans(check, "released when the one ahead is done", rule, new int[][] {{3, 50}, {2, 10, 1, 3}}, "j0:3 j1:5");
        plans(check, "released 1 behind that", rule, new int[][] {{3, 50}, {2, 10, 1, 4}}, "j0:3 -:4 j1:6");
    }

    private static void priorities(Check check) {
        int[][] broken = {{10, 100, 1, 0}, {1, 5, 1, 3}};
        check.same("the later one breaks off", Machines.of(broken).leastPreemptiveCompletions(), 4 + 11);
        check.same("and is early", Machines.of(broken).leastPreemptiveLateness(), -1);
        int[][] gap = {{2, 2, 1, 0}, {2, 7, 1, 5}, {4, 9, 1, 1}};
        check.same("one works in two gaps", Machines.of(gap).leastPreemptiveLateness(), 0);
        check.same("what is not released is not waited for",
                Machines.of(new int[][] {{3, 300, 1, 2}, {3, 1, 1, 50}}).leastPreemptiveCompletions(), 5 + 53);
        check.same("released at once, no worse than any order",
                Machines.of(new int[][] {{3, 6}, {3, 3}}).leastPreemptiveLateness(), 0);
        check.same("idle until the first release",
                Machines.of(new int[][] {{3, 6, 1, 100}, {3, 3, 1, 100}}).leastPreemptiveLateness(), 100);
    }

    private static void windows(Check check) {
        OneMachine crossed = Machines.of(new int[][] {{5, 8, 1, 2}, {5, 9, 1, 4}});
        check.same("r and d of two jobs", crossed.windowBound(true), 2 + 10 - 9);
        check.same("its due date", crossed.windowDue(), 9);
        check.same("its release date", crossed.windowRelease(), 2);
        OneMachine apart = Machines.of(new int[][] {{1, 0}, {1, 300, 1, 100}});
        check.same("at least one job", apart.windowBound(true), 1);
        OneMachine below = Machines.of(new int[][] {{4, 10, 1, 5}, {9, 10, 1, 4}, {9, 11, 1, 5}});
        check.same("4 to 11 with all of them", below.windowBound(true), 4 + 22 - 11);
        OneMachine outside = Machines.of(new int[][] {{8, 10, 1, 9}, {1, 10, 1, 8}, {1, 12, 1, 9}});
        check.same("not those released ahead of r or due behind d", outside.windowBound(true), 9 + 8 - 10);
        OneMachine edges = Machines.of(new int[][] {{4, 10, 1, 5}, {3, 10, 1, 6}, {2, 9, 1, 5}});
        check.same("those released at r and due at d", edges.windowBound(true), 5 + 9 - 10);
        OneMachine several = Machines.of(new int[][] {{3, 4}, {3, 5}});
        check.same("all these jobs together", several.windowBound(true), 6 - 5);
    }

    // ---- calls

    private static void refused(Check check, OneMachine machine, Class<? extends RuntimeException> due,
            Consumer<OneMachine> call) {
        String before = Machines.asked(machine);
        check.fails("the call", due, () -> call.accept(machine));
        check.same("everything after it", Machines.asked(machine), before);
    }

    private static void throwsChangeNothing(Check check) {
        OneMachine machine = planned("planByFamilies", Machines.six());
        refused(check, machine, ARGUMENT, one -> one.addJob(31, 0, 1, 0, 0));
        refused(check, machine, INDEX, one -> one.changeJob(6, 1, 0, 1, 0, 0));
        refused(check, machine, ARGUMENT, one -> one.changeJob(0, 9, 9, 9, 9, 4));
        refused(check, machine, INDEX, one -> one.removeJob(6));
        refused(check, machine, INDEX, one -> one.setSetup(4, 0));
        refused(check, machine, ARGUMENT, one -> one.setSetup(0, 21));
        refused(check, machine, INDEX, one -> one.kindOf(9));
        refused(check, machine, INDEX, one -> one.whoseIs(9));
        refused(check, machine, INDEX, one -> one.startOf(9));
        refused(check, machine, INDEX, one -> one.endOf(9));
        refused(check, machine, INDEX, one -> one.completion(6));
        refused(check, machine, INDEX, one -> one.lateness(6));
        refused(check, machine, ARGUMENT, one -> one.canBeOnTime(64));
        check.same("all of it", Machines.whole(machine),
                Machines.whole(planned("planByFamilies", Machines.six())));
        throwsWithTenJobs(check);
        throwsWithoutPlan(check);
        throwsWithoutJobs(check);
    }

    private static void throwsWithTenJobs(Check check) {
        OneMachine machine = planned("planByRatios", Machines.withJobs(10));
        refused(check, machine, STATE, one -> one.addJob(9, 9, 9, 9, 3));
        refused(check, machine, STATE, OneMachine::leastLateness);
        refused(check, machine, STATE, OneMachine::leastCompletions);
        refused(check, machine, STATE, OneMachine::leastTardiness);
        refused(check, machine, STATE, OneMachine::leastWithSetups);
        refused(check, machine, STATE, OneMachine::leastPreemptiveLateness);
        refused(check, machine, STATE, OneMachine::leastPreemptiveCompletions);
        check.same("all of ten", Machines.whole(machine),
                Machines.whole(planned("planByRatios", Machines.withJobs(10))));
    }

    private static void throwsWithoutPlan(Check check) {
        OneMachine machine = Machines.six();
        refused(check, machine, STATE, one -> one.completion(0));
        refused(check, machine, STATE, one -> one.lateness(0));
        refused(check, machine, STATE, OneMachine::maxLateness);
        refused(check, machine, STATE, OneMachine::lateJobs);
        refused(check, machine, STATE, OneMachine::completions);
        refused(check, machine, STATE, OneMachine::weightedCompletions);
        refused(check, machine, STATE, OneMachine::weightedTardiness);
        check.same("all without a plan", Machines.whole(machine), Machines.whole(Machines.six()));
    }

    private static void throwsWithoutJobs(Check check) {
        OneMachine machine = new OneMachine();
        machine.setSetup(2, 9);
        Machines.RULES.forEach((name, rule) -> refused(check, machine, STATE, rule::applyAsInt));
        refused(check, machine, STATE, OneMachine::leastLateness);
        refused(check, machine, STATE, OneMachine::leastPreemptiveCompletions);
        refused(check, machine, STATE, one -> one.windowBound(true));
        refused(check, machine, STATE, OneMachine::windowDue);
        refused(check, machine, STATE, OneMachine::windowRelease);
        refused(check, machine, INDEX, one -> one.removeJob(0));
        refused(check, machine, ARGUMENT, one -> one.canBeOnTime(1));
        check.same("the setup time", machine.setSetup(2, 0), 9);
    }

    private static void firstNamedException(Check check) {
        OneMachine full = planned("planByRatios", Machines.withJobs(10));
        check.fails("addJob, full and out of range", ARGUMENT, () -> full.addJob(0, 0, 1, 0, 0));
        check.fails("addJob, full and out of range at last", ARGUMENT, () -> full.addJob(1, 0, 1, 0, 4));
        check.fails("changeJob, no such job and out of range", INDEX, () -> full.changeJob(10, 0, 0, 1, 0, 0));
        check.fails("changeJob, no such job and out of range", INDEX, () -> full.changeJob(-1, 1, 0, 1, 0, 4));
        check.fails("setSetup, no such family and out of range", INDEX, () -> full.setSetup(4, 21));
        check.fails("setSetup, no such family and out of range", INDEX, () -> full.setSetup(-1, -1));
        OneMachine unplanned = Machines.six();
        check.fails("completion, no such job and no plan", INDEX, () -> unplanned.completion(6));
        check.fails("completion, no such job and no plan", INDEX, () -> unplanned.completion(-1));
        check.fails("lateness, no such job and no plan", INDEX, () -> unplanned.lateness(6));
        check.fails("lateness, no such job and no plan", INDEX, () -> unplanned.lateness(-1));
        check.fails("completion, no job at all", INDEX, () -> new OneMachine().completion(0));
        check.fails("lateness, no job at all", INDEX, () -> new OneMachine().lateness(0));
    }

    private static void drops(Check check, String what, Consumer<OneMachine> call) {
        Machines.RULES.forEach((name, rule) -> {
            OneMachine machine = planned(name, Machines.six());
            call.accept(machine);
            check.same(what + " behind " + name + ", hasPlan()", machine.hasPlan(), false);
            check.same(what + " behind " + name + ", pieces()", machine.pieces(), 0);
            check.fails(what + " behind " + name + ", kindOf(0)", INDEX, () -> machine.kindOf(0));
            check.fails(what + " behind " + name + ", completion(0)", STATE, () -> machine.completion(0));
            check.fails(what + " behind " + name + ", maxLateness()", STATE, machine::maxLateness);
        });
    }

    /** Promise 6 says that jobs() changes nothing: it alone of these calls keeps the plan. */
    private static void dropsThePlan(Check check) {
        drops(check, "addJob", machine -> machine.addJob(1, 1, 1, 1, 1));
        drops(check, "changeJob", machine -> machine.changeJob(1, 9, 9, 9, 9, 1));
        drops(check, "changeJob to the same", machine -> machine.changeJob(1, 3, 9, 5, 4, 1));
        drops(check, "removeJob", machine -> machine.removeJob(5));
        drops(check, "setSetup", machine -> machine.setSetup(0, 4));
        drops(check, "setSetup to the same", machine -> machine.setSetup(0, 3));
        drops(check, "setSetup of a family without jobs", machine -> machine.setSetup(3, 0));
        OneMachine kept = planned("planByRatios", Machines.six());
        kept.jobs();
        check.same("jobs()", kept.hasPlan(), true);
    }

    private static void inPlace(Check check) {
        Machines.RULES.forEach((name, rule) -> {
            String alone = Machines.asked(planned(name, Machines.six()));
            Machines.RULES.forEach((before, ruleBefore) -> {
                OneMachine machine = planned(before, Machines.six());
                rule.applyAsInt(machine);
                check.same(name + " in place of " + before, Machines.asked(machine), alone);
            });
        });
    }

    private static void asksChangeNothing(Check check) {
        Machines.RULES.forEach((name, rule) -> {
            OneMachine machine = planned(name, Machines.six());
            String first = Machines.asked(machine);
            check.same("asked again behind " + name, Machines.asked(machine), first);
            check.same("all of it", Machines.whole(machine), Machines.whole(planned(name, Machines.six())));
        });
        OneMachine unplanned = Machines.six();
        Machines.asked(unplanned);
        check.same("no plan comes from it", unplanned.hasPlan(), false);
    }

    private static void secondWaysChangeNothing(Check check) {
        OneMachine machine = planned("planByFamilies", Machines.six());
        String before = Machines.pieces(machine);
        machine.leastLateness();
        machine.leastCompletions();
        machine.leastTardiness();
        machine.leastWithSetups();
        machine.leastPreemptiveLateness();
        machine.leastPreemptiveCompletions();
        machine.canBeOnTime(63);
        machine.fewestLateBySets();
        machine.windowBound(true);
        machine.windowBound(false);
        machine.windowDue();
        machine.windowRelease();
        check.planned("the plan is kept", machine, before);
        check.same("all of it", Machines.whole(machine),
                Machines.whole(planned("planByFamilies", Machines.six())));
    }
}
