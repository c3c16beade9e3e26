/** For each promise of the document: ordinary inputs, the edges that it names, and wrong inputs, worked out by hand. */
public final class PromisesTest {
    private static final Check CHECK = new Check();
    private static final Class<IllegalArgumentException> ARGUMENT = IllegalArgumentException.class;
    private static final Class<IllegalStateException> STATE = IllegalStateException.class;
    private static final Class<IndexOutOfBoundsException> INDEX = IndexOutOfBoundsException.class;

    public static void main(String[] args) {
        promises1To6();
        promises7To9();
        promises10To11();
        promises12To13();
        promises14To19();
        promises20To26();
        promises27To32();
        promises33To34();
        promises35To37();
        CHECK.finish("PromisesTest");
    }

    // ---- the machines that the tests begin with

    private static OneMachine machine(int[]... jobs) {
        OneMachine machine = new OneMachine();
        for (int[] job : jobs) {
            machine.addJob(job[0], job[1], job[2], job[3], job[4]);
        }
        return machine;
    }

    private static int[] job(int length, int due, int weight, int release, int family) {
        return new int[] {length, due, weight, release, family};
    }

    private static OneMachine withJobs(int count) {
        OneMachine machine = new OneMachine();
        for (int job = 0; job < count; job++) {
            machine.addJob(1, job, 1, 0, 0);
        }
        return machine;
    }

    /** Six jobs of three families, released at several times, with setup times of 3, 1 and 5. */
    private static OneMachine six() {
        OneMachine machine = machine(job(7, 20, 3, 0, 0), job(3, 9, 5, 4, 1), job(8, 15, 2, 0, 0),
                job(2, 6, 8, 9, 1), job(6, 30, 1, 2, 2), job(4, 11, 4, 12, 0));
        machine.setSetup(0, 3);
        machine.setSetup(1, 1);
        machine.setSetup(2, 5);
        return machine;
    }

    /** For each piece j for a job, s for a setup or - for idle, then whose it is and its end: such as "-:5 j0:8". */
    private static String pieces(OneMachine machine) {
        StringBuilder told = new StringBuilder();
        for (int piece = 0; piece < machine.pieces(); piece++) {
            int kind = machine.kindOf(piece);
            told.append(piece == 0 ? "" : " ").append(kind == 0 ? "j" : kind == 1 ? "s" : "-");
            told.append(kind == 2 ? "" : machine.whoseIs(piece)).append(':').append(machine.endOf(piece));
        }
        return told.toString();
    }

    private static void planned(String what, OneMachine machine, String due) {
        String got = pieces(machine);
        CHECK.count(got.equals(due), what + " planned " + got + ", due is " + due);
    }

    // ---- jobs

    private static void promises1To6() {
        newObject();
        addJob();
        changeJob();
        removeJob();
        setSetup();
        jobsAndDropping();
    }

    private static void newObject() {
        OneMachine machine = new OneMachine();
        CHECK.same("1: jobs()", machine.jobs(), 0);
        CHECK.same("1: hasPlan()", machine.hasPlan(), false);
        for (int family = 0; family < 4; family++) {
            CHECK.same("1: setSetup", machine.setSetup(family, family), 0);
        }
        CHECK.same("1: another object has its own", new OneMachine().setSetup(3, 0), 0);
    }

    private static void addJob() {
        OneMachine machine = new OneMachine();
        CHECK.same("2: addJob", machine.addJob(1, 0, 1, 0, 0), 0);
        CHECK.same("2: addJob", machine.addJob(30, 300, 20, 100, 3), 1);
        int[][] wrong = {job(0, 0, 1, 0, 0), job(31, 0, 1, 0, 0), job(1, -1, 1, 0, 0), job(1, 301, 1, 0, 0),
            job(1, 0, 0, 0, 0), job(1, 0, 21, 0, 0), job(1, 0, 1, -1, 0), job(1, 0, 1, 101, 0),
            job(1, 0, 1, 0, -1), job(1, 0, 1, 0, 4), job(Integer.MIN_VALUE, 0, 1, 0, 0),
            job(1, Integer.MAX_VALUE, 1, 0, 0)};
        machine.planByDueDates();
        for (int[] job : wrong) {
            CHECK.fails("2: addJob out of range", ARGUMENT,
                    () -> machine.addJob(job[0], job[1], job[2], job[3], job[4]));
            CHECK.fails("3: changeJob out of range", ARGUMENT,
                    () -> machine.changeJob(0, job[0], job[1], job[2], job[3], job[4]));
        }
        CHECK.same("2: a throw adds nothing", machine.jobs(), 2);
        CHECK.same("2: a throw keeps the plan", machine.hasPlan(), true);
        for (int job = 2; job < 10; job++) {
            CHECK.same("2: addJob", machine.addJob(1, 0, 1, 0, 0), job);
        }
        CHECK.fails("2: an eleventh job", STATE, () -> machine.addJob(1, 0, 1, 0, 0));
        CHECK.fails("2: an eleventh job out of range", ARGUMENT, () -> machine.addJob(0, 0, 1, 0, 0));
        CHECK.same("2: jobs()", machine.jobs(), 10);
        CHECK.same("2: the jobs are as told", machine.planByDueDates(), 9);
        CHECK.same("2: the length is as told", machine.completion(1), 39);
        CHECK.same("2: the due date is as told", machine.lateness(1), -261);
        CHECK.same("2: the weight is as told", machine.weightedCompletions(), 45 + 20 * 39);
        machine.planPreemptiveByDates();
        CHECK.same("2: the release date is as told", machine.completion(1), 130);
        machine.setSetup(3, 4);
        machine.planByFamilies();
        CHECK.same("2: the family is as told", machine.completion(1), 43);
    }

    private static void changeJob() {
        OneMachine machine = machine(job(1, 1, 1, 0, 0), job(2, 2, 2, 0, 0));
        machine.changeJob(1, 5, 40, 3, 60, 2);
        CHECK.same("3: jobs()", machine.jobs(), 2);
        machine.planByDueDates();
        CHECK.same("3: the new length", machine.completion(1), 6);
        CHECK.same("3: the new due date", machine.lateness(1), -34);
        CHECK.same("3: the new weight", machine.weightedCompletions(), 1 + 3 * 6);
        machine.planPreemptiveByDates();
        CHECK.same("3: the new release date", machine.completion(1), 65);
        machine.setSetup(2, 7);
        machine.planByFamilies();
        CHECK.same("3: the new family", machine.completion(1), 13);
        CHECK.fails("3: no such job", INDEX, () -> machine.changeJob(2, 1, 1, 1, 1, 1));
        CHECK.fails("3: no such job", INDEX, () -> machine.changeJob(-1, 1, 1, 1, 1, 1));
        CHECK.fails("3: no such job comes first", INDEX, () -> machine.changeJob(2, 0, 1, 1, 1, 1));
        CHECK.same("3: a throw changes nothing", machine.completion(1), 13);
        CHECK.fails("3: no job at all", INDEX, () -> new OneMachine().changeJob(0, 1, 1, 1, 1, 1));
    }

    private static void removeJob() {
        OneMachine machine = machine(job(1, 1, 1, 0, 0), job(2, 9, 2, 5, 1), job(3, 4, 3, 0, 2), job(4, 70, 4, 30, 3));
        CHECK.fails("4: no such job", INDEX, () -> machine.removeJob(4));
        CHECK.fails("4: no such job", INDEX, () -> machine.removeJob(-1));
        CHECK.same("4: removeJob", machine.removeJob(1), 3);
        machine.planByDueDates();
        planned("4: those above are 1 lower", machine, "j0:1 j1:4 j2:8");
        CHECK.same("4: weights go along", machine.weightedCompletions(), 1 + 3 * 4 + 4 * 8);
        CHECK.same("4: due dates go along", machine.lateness(2), -62);
        machine.planPreemptiveByDates();
        planned("4: release dates go along", machine, "j0:1 j1:4 -:30 j2:34");
        machine.setSetup(3, 6);
        machine.planByFamilies();
        planned("4: families go along", machine, "j0:1 j1:4 s3:10 j2:14");
        CHECK.fails("4: no such job any more", INDEX, () -> machine.completion(3));
        CHECK.same("4: the last one", machine.removeJob(2), 2);
        CHECK.same("4: the first one", machine.removeJob(0), 1);
        CHECK.same("4: the only one", machine.removeJob(0), 0);
        CHECK.fails("4: none left", INDEX, () -> machine.removeJob(0));
        CHECK.same("4: numbers begin again", machine.addJob(1, 1, 1, 1, 1), 0);
    }

    private static void setSetup() {
        OneMachine machine = machine(job(1, 1, 1, 0, 2));
        CHECK.same("5: at first", machine.setSetup(2, 20), 0);
        CHECK.same("5: the one before", machine.setSetup(2, 3), 20);
        CHECK.same("5: the same again", machine.setSetup(2, 3), 3);
        CHECK.same("5: others do not change", machine.setSetup(1, 0), 0);
        machine.planByFamilies();
        CHECK.fails("5: no such family", INDEX, () -> machine.setSetup(4, 1));
        CHECK.fails("5: no such family", INDEX, () -> machine.setSetup(-1, 1));
        CHECK.fails("5: no such family comes first", INDEX, () -> machine.setSetup(4, 21));
        CHECK.fails("5: time out of range", ARGUMENT, () -> machine.setSetup(2, 21));
        CHECK.fails("5: time out of range", ARGUMENT, () -> machine.setSetup(2, -1));
        CHECK.same("5: a throw keeps the plan", machine.completion(0), 4);
        CHECK.same("5: a throw keeps the time", machine.setSetup(2, 0), 3);
    }

    private static void jobsAndDropping() {
        OneMachine machine = machine(job(1, 1, 1, 0, 0), job(2, 2, 2, 0, 0));
        machine.planByDueDates();
        CHECK.same("6: jobs()", machine.jobs(), 2);
        CHECK.same("6: jobs() changes nothing", machine.hasPlan(), true);
        machine.changeJob(0, 1, 1, 1, 0, 0);
        CHECK.same("3: changeJob drops the plan, though nothing is different", machine.hasPlan(), false);
        CHECK.same("15: no pieces", machine.pieces(), 0);
        machine.planByDueDates();
        machine.setSetup(3, 0);
        CHECK.same("5: setSetup drops the plan, though nothing is different", machine.hasPlan(), false);
        machine.planByDueDates();
        machine.addJob(1, 1, 1, 0, 0);
        CHECK.same("2: addJob drops the plan", machine.hasPlan(), false);
        machine.planByDueDates();
        machine.removeJob(2);
        CHECK.same("4: removeJob drops the plan", machine.hasPlan(), false);
        machine.planByDueDates();
        CHECK.fails("4: a throw keeps the plan", INDEX, () -> machine.removeJob(2));
        CHECK.same("4: a throw keeps the plan", machine.hasPlan(), true);
    }

    // ---- rules

    private static void promises7To9() {
        OneMachine none = new OneMachine();
        CHECK.fails("7: no job", STATE, none::planByDueDates);
        CHECK.fails("8: no job", STATE, none::planFewestLate);
        CHECK.fails("9: no job", STATE, none::planByRatios);
        CHECK.same("14: no plan from a throw", none.hasPlan(), false);
        OneMachine machine = six();
        CHECK.same("7: planByDueDates()", machine.planByDueDates(), 4);
        planned("7: no setups and release dates", machine, "j3:2 j1:5 j5:9 j2:17 j0:24 j4:30");
        OneMachine ties = machine(job(2, 9, 1, 0, 0), job(3, 5, 1, 0, 0), job(1, 9, 1, 0, 0), job(4, 5, 1, 0, 0));
        CHECK.same("7: planByDueDates()", ties.planByDueDates(), 2);
        planned("7: the same due date", ties, "j1:3 j3:7 j0:9 j2:10");
        CHECK.same("7: below 0", machine(job(5, 9, 1, 50, 0)).planByDueDates(), -4);
        fewestLate(machine);
        CHECK.same("9: planByRatios()", machine.planByRatios(), 203);
        planned("9: falling ratios", machine, "j3:2 j1:5 j5:9 j0:16 j2:24 j4:30");
        OneMachine same = machine(job(4, 0, 2, 0, 0), job(3, 0, 1, 0, 0), job(2, 0, 1, 0, 0), job(6, 0, 2, 0, 0),
                job(30, 0, 15, 0, 0));
        CHECK.same("9: planByRatios()", same.planByRatios(), 8 + 6 + 15 * 36 + 39 + 2 * 45);
        planned("9: the same ratio", same, "j0:4 j2:6 j4:36 j1:39 j3:45");
        OneMachine near = machine(job(30, 0, 19, 0, 0), job(30, 0, 20, 0, 0), job(29, 0, 19, 0, 0));
        near.planByRatios();
        planned("9: ratios that are near", near, "j1:30 j2:59 j0:89");
    }

    private static void fewestLate(OneMachine machine) {
        CHECK.same("8: planFewestLate()", machine.planFewestLate(), 1);
        planned("8: the longest goes behind", machine, "j3:2 j1:5 j5:9 j0:16 j4:22 j2:30");
        OneMachine ties = machine(job(5, 10, 2, 0, 0), job(5, 10, 2, 0, 1), job(5, 10, 2, 0, 0), job(5, 10, 2, 0, 1));
        CHECK.same("8: planFewestLate()", ties.planFewestLate(), 2);
        planned("8: of several as long the highest number", ties, "j0:5 j1:10 j2:15 j3:20");
        OneMachine order = machine(job(6, 8, 1, 0, 0), job(3, 7, 1, 0, 0), job(4, 4, 1, 0, 0), job(4, 12, 1, 0, 0));
        CHECK.same("8: planFewestLate()", order.planFewestLate(), 1);
        planned("8: the longest is not the last", order, "j2:4 j1:7 j3:11 j0:17");
        OneMachine all = machine(job(2, 1, 1, 0, 0), job(3, 0, 1, 0, 0));
        CHECK.same("8: planFewestLate()", all.planFewestLate(), 2);
        planned("8: in the order in which they were dropped", all, "j1:3 j0:5");
        OneMachine just = machine(job(2, 2, 1, 0, 0), job(3, 5, 1, 0, 0));
        CHECK.same("8: not above the due date", just.planFewestLate(), 0);
        OneMachine twice = machine(job(9, 9, 1, 0, 0), job(2, 10, 1, 0, 0), job(8, 11, 1, 0, 0), job(1, 11, 1, 0, 0));
        CHECK.same("8: planFewestLate()", twice.planFewestLate(), 1);
        planned("8: dropped ones stay dropped", twice, "j1:2 j2:10 j3:11 j0:20");
    }

    private static void promises10To11() {
        CHECK.fails("10: no job", STATE, new OneMachine()::planLeastTardiness);
        CHECK.fails("11: no job", STATE, new OneMachine()::planByFamilies);
        OneMachine machine = six();
        CHECK.same("10: planLeastTardiness()", machine.planLeastTardiness(), 16);
        planned("10: the first of the best orders", machine, "j1:3 j3:5 j5:9 j2:17 j0:24 j4:30");
        OneMachine heavy = machine(job(4, 4, 1, 0, 0), job(4, 5, 9, 0, 0));
        CHECK.same("10: planLeastTardiness()", heavy.planLeastTardiness(), 4);
        planned("10: the weight matters", heavy, "j1:4 j0:8");
        OneMachine ten = withJobs(10);
        CHECK.same("10: with ten jobs", ten.planLeastTardiness(), 10);
        planned("10: with ten jobs", ten, "j0:1 j1:2 j2:3 j3:4 j4:5 j5:6 j6:7 j7:8 j8:9 j9:10");
        OneMachine early = machine(job(1, 300, 20, 0, 0), job(1, 200, 1, 0, 0), job(1, 2, 1, 0, 0));
        CHECK.same("10: none late", early.planLeastTardiness(), 0);
        planned("10: by numbers, as long as none is late", early, "j0:1 j2:2 j1:3");
        families();
    }

    private static void families() {
        OneMachine machine = six();
        CHECK.same("11: planByFamilies()", machine.planByFamilies(), 9);
        planned("11: planByFamilies()", machine, "s1:1 j3:3 j1:6 s0:9 j5:13 j2:21 j0:28 s2:33 j4:39");
        OneMachine pairs = machine(job(5, 10, 2, 0, 0), job(5, 10, 2, 0, 1), job(5, 10, 2, 0, 0), job(5, 10, 2, 0, 1));
        pairs.setSetup(0, 2);
        pairs.setSetup(1, 2);
        CHECK.same("11: planByFamilies()", pairs.planByFamilies(), 14);
        planned("11: a setup only where the family is another one", pairs, "s0:2 j0:7 j2:12 s1:14 j1:19 j3:24");
        OneMachine free = machine(job(1, 9, 1, 0, 0), job(1, 1, 1, 0, 1), job(1, 5, 1, 0, 0));
        CHECK.same("11: setups of no time", free.planByFamilies(), 0);
        planned("11: setups of no time are left out", free, "j1:1 j2:2 j0:3");
        OneMachine late = machine(job(1, 100, 1, 0, 0), job(1, 100, 1, 0, 1), job(9, 0, 1, 0, 2), job(1, 90, 1, 0, 0));
        CHECK.same("11: planByFamilies()", late.planByFamilies(), 9);
        planned("11: the first order that is no later, by due dates in a family", late, "j2:9 j1:10 j3:11 j0:12");
        OneMachine slack = machine(job(2, 20, 1, 0, 0), job(2, 2, 1, 0, 1), job(2, 20, 1, 0, 0), job(2, 20, 1, 0, 1));
        slack.setSetup(0, 1);
        slack.setSetup(1, 3);
        CHECK.same("11: planByFamilies()", slack.planByFamilies(), 3);
        planned("11: one more setup, when it makes nothing later", slack, "s1:3 j1:5 s0:6 j0:8 j2:10 s1:13 j3:15");
    }

    private static void promises12To13() {
        CHECK.fails("12: no job", STATE, new OneMachine()::planPreemptiveByDates);
        CHECK.fails("13: no job", STATE, new OneMachine()::planPreemptiveShortest);
        OneMachine machine = machine(job(10, 40, 1, 5, 0), job(3, 12, 1, 8, 0), job(2, 50, 1, 8, 0),
                job(4, 60, 1, 40, 0), job(1, 300, 1, 5, 0));
        machine.setSetup(0, 9);
        CHECK.same("12: planPreemptiveByDates()", machine.planPreemptiveByDates(), -1);
        planned("12: idle at first and between", machine, "-:5 j0:8 j1:11 j0:18 j2:20 j4:21 -:40 j3:44");
        CHECK.same("13: planPreemptiveShortest()", machine.planPreemptiveShortest(), 94);
        planned("13: the least remaining length", machine, "-:5 j4:6 j0:8 j2:10 j1:13 j0:21 -:40 j3:44");
        OneMachine ties = machine(job(4, 9, 1, 3, 0), job(7, 9, 1, 0, 0), job(2, 9, 1, 4, 0));
        CHECK.same("12: planPreemptiveByDates()", ties.planPreemptiveByDates(), 4);
        planned("12: of the same due date the lowest number", ties, "j1:3 j0:7 j1:11 j2:13");
        CHECK.same("13: planPreemptiveShortest()", ties.planPreemptiveShortest(), 9 + 13 + 6);
        planned("13: of the same remaining length the lowest number", ties, "j1:3 j0:4 j2:6 j0:9 j1:13");
        OneMachine goesOn = machine(job(5, 9, 1, 0, 0), job(5, 90, 1, 2, 0), job(5, 80, 1, 3, 0));
        CHECK.same("12: planPreemptiveByDates()", goesOn.planPreemptiveByDates(), -4);
        planned("12: one piece, though others are released", goesOn, "j0:5 j2:10 j1:15");
        CHECK.same("13: planPreemptiveShortest()", goesOn.planPreemptiveShortest(), 30);
        planned("13: one piece, though others are released", goesOn, "j0:5 j1:10 j2:15");
    }

    // ---- the plan

    private static void promises14To19() {
        OneMachine machine = machine(job(3, 9, 1, 4, 2));
        CHECK.same("14: without a plan", machine.hasPlan(), false);
        CHECK.same("15: without a plan", machine.pieces(), 0);
        CHECK.fails("16: without a plan", INDEX, () -> machine.kindOf(0));
        machine.setSetup(2, 5);
        machine.planByFamilies();
        CHECK.same("14: with a plan", machine.hasPlan(), true);
        CHECK.same("15: a setup and a job", machine.pieces(), 2);
        CHECK.same("16: a setup", machine.kindOf(0), 1);
        CHECK.same("16: a job", machine.kindOf(1), 0);
        CHECK.same("17: the family", machine.whoseIs(0), 2);
        CHECK.same("17: the job", machine.whoseIs(1), 0);
        CHECK.same("18: from 0 on", machine.startOf(0), 0);
        CHECK.same("18: from the end of the one ahead", machine.startOf(1), 5);
        CHECK.same("19: the end", machine.endOf(0), 5);
        CHECK.same("19: the end", machine.endOf(1), 8);
        machine.planPreemptiveByDates();
        CHECK.same("15: the plan in place of the one before", machine.pieces(), 2);
        CHECK.same("16: idle", machine.kindOf(0), 2);
        CHECK.same("17: idle", machine.whoseIs(0), -1);
        CHECK.same("19: the end", machine.endOf(1), 7);
        for (int piece : new int[] {-1, 2, Integer.MIN_VALUE, Integer.MAX_VALUE}) {
            CHECK.fails("16: no such piece", INDEX, () -> machine.kindOf(piece));
            CHECK.fails("17: no such piece", INDEX, () -> machine.whoseIs(piece));
            CHECK.fails("18: no such piece", INDEX, () -> machine.startOf(piece));
            CHECK.fails("19: no such piece", INDEX, () -> machine.endOf(piece));
        }
        machine.planByDueDates();
        CHECK.same("15: the plan in place of the one before", machine.pieces(), 1);
        CHECK.fails("19: no such piece any more", INDEX, () -> machine.endOf(1));
        machine.addJob(1, 1, 1, 1, 1);
        for (Runnable call : new Runnable[] {() -> machine.kindOf(0), () -> machine.whoseIs(0),
            () -> machine.startOf(0), () -> machine.endOf(0)}) {
            CHECK.fails("16 to 19: the plan is dropped", INDEX, call);
        }
        mostPieces();
    }

    /** Every job is released while the one ahead of it is worked on, and is due earlier: no plan has more pieces. */
    private static void mostPieces() {
        OneMachine machine = new OneMachine();
        for (int job = 0; job < 10; job++) {
            machine.addJob(30 - 2 * job, 300 - job, 1, job + 1, 0);
        }
        CHECK.same("12: planPreemptiveByDates()", machine.planPreemptiveByDates(), -89);
        CHECK.same("15: idle, nine that are broken off, and ten ends", machine.pieces(), 20);
        planned("12: the last one comes first", machine, "-:1 j0:2 j1:3 j2:4 j3:5 j4:6 j5:7 j6:8 j7:9 j8:10 j9:22"
                + " j8:35 j7:50 j6:67 j5:86 j4:107 j3:130 j2:155 j1:182 j0:211");
    }

    private static void promises20To26() {
        OneMachine none = new OneMachine();
        OneMachine machine = six();
        for (Runnable call : new Runnable[] {machine::maxLateness, machine::lateJobs, machine::completions,
            machine::weightedCompletions, machine::weightedTardiness, () -> machine.completion(5),
            () -> machine.lateness(5), none::maxLateness, none::lateJobs, none::completions,
            none::weightedCompletions, none::weightedTardiness}) {
            CHECK.fails("20 to 26: no plan", STATE, call);
        }
        for (int job : new int[] {-1, 6, Integer.MIN_VALUE, Integer.MAX_VALUE}) {
            CHECK.fails("20: no such job comes first", INDEX, () -> machine.completion(job));
            CHECK.fails("21: no such job comes first", INDEX, () -> machine.lateness(job));
        }
        machine.planByDueDates();
        int[] ends = {24, 5, 17, 2, 30, 9};
        int[] lateness = {4, -4, 2, -4, 0, -2};
        for (int job = 0; job < 6; job++) {
            CHECK.same("20: completion(" + job + ")", machine.completion(job), ends[job]);
            CHECK.same("21: lateness(" + job + ")", machine.lateness(job), lateness[job]);
        }
        CHECK.same("22: maxLateness()", machine.maxLateness(), 4);
        CHECK.same("23: lateJobs(), not with a lateness of 0", machine.lateJobs(), 2);
        CHECK.same("24: completions()", machine.completions(), 87);
        CHECK.same("25: weightedCompletions()", machine.weightedCompletions(), 72 + 25 + 34 + 16 + 30 + 36);
        CHECK.same("26: weightedTardiness()", machine.weightedTardiness(), 12 + 4);
        for (int job : new int[] {-1, 6}) {
            CHECK.fails("20: no such job", INDEX, () -> machine.completion(job));
            CHECK.fails("21: no such job", INDEX, () -> machine.lateness(job));
        }
        machine.planPreemptiveShortest();
        CHECK.same("20: the end of its last piece", machine.completion(2), 30);
        CHECK.same("22: another plan", machine.maxLateness(), 15);
        CHECK.same("24: another plan", machine.completions(), 97);
        OneMachine early = machine(job(2, 9, 3, 0, 0), job(2, 8, 3, 0, 0));
        early.planByDueDates();
        CHECK.same("22: below 0", early.maxLateness(), -5);
        CHECK.same("23: none", early.lateJobs(), 0);
        CHECK.same("26: at least 0", early.weightedTardiness(), 0);
        machine.changeJob(0, 1, 1, 1, 1, 1);
        CHECK.fails("20: the plan is dropped", STATE, () -> machine.completion(0));
    }

    // ---- second ways

    private static void promises27To32() {
        OneMachine machine = six();
        machine.planPreemptiveShortest();
        String before = pieces(machine);
        CHECK.same("27: leastLateness()", machine.leastLateness(), 4);
        CHECK.same("28: leastCompletions()", machine.leastCompletions(), 203);
        CHECK.same("29: leastTardiness()", machine.leastTardiness(), 16);
        CHECK.same("30: leastWithSetups()", machine.leastWithSetups(), 9);
        CHECK.same("31: leastPreemptiveLateness()", machine.leastPreemptiveLateness(), 5);
        CHECK.same("32: leastPreemptiveCompletions()", machine.leastPreemptiveCompletions(), 97);
        planned("27 to 32: the plan is kept", machine, before);
        CHECK.same("27: below 0", machine(job(5, 9, 1, 50, 0)).leastLateness(), -4);
        CHECK.same("31: below 0", machine(job(5, 90, 1, 50, 0)).leastPreemptiveLateness(), -35);
        CHECK.same("32: the release date matters", machine(job(5, 90, 7, 50, 0)).leastPreemptiveCompletions(), 55);
        OneMachine setups = machine(job(5, 9, 1, 50, 3), job(5, 9, 1, 50, 2), job(5, 9, 1, 50, 3));
        setups.setSetup(3, 2);
        setups.setSetup(2, 4);
        CHECK.same("30: leastWithSetups()", setups.leastWithSetups(), 12);
        CHECK.same("27: no setups", setups.leastLateness(), 6);
        CHECK.same("30: leaves no plan", setups.hasPlan(), false);
        OneMachine seven = withJobs(7);
        CHECK.same("27: seven jobs", seven.leastLateness(), 1);
        CHECK.same("28: seven jobs", seven.leastCompletions(), 28);
        CHECK.same("29: seven jobs", seven.leastTardiness(), 7);
        CHECK.same("30: seven jobs", seven.leastWithSetups(), 1);
        CHECK.same("31: seven jobs", seven.leastPreemptiveLateness(), 1);
        CHECK.same("32: seven jobs", seven.leastPreemptiveCompletions(), 28);
        for (OneMachine wrong : new OneMachine[] {new OneMachine(), withJobs(8), withJobs(10)}) {
            CHECK.fails("27: no job or too many", STATE, wrong::leastLateness);
            CHECK.fails("28: no job or too many", STATE, wrong::leastCompletions);
            CHECK.fails("29: no job or too many", STATE, wrong::leastTardiness);
            CHECK.fails("30: no job or too many", STATE, wrong::leastWithSetups);
            CHECK.fails("31: no job or too many", STATE, wrong::leastPreemptiveLateness);
            CHECK.fails("32: no job or too many", STATE, wrong::leastPreemptiveCompletions);
        }
    }

    private static void promises33To34() {
        OneMachine machine = six();
        machine.planByRatios();
        CHECK.same("33: all of them", machine.canBeOnTime(63), false);
        CHECK.same("33: 1, 3 and 4", machine.canBeOnTime(26), true);
        CHECK.same("33: all but 2", machine.canBeOnTime(59), true);
        CHECK.same("33: none", machine.canBeOnTime(0), true);
        CHECK.same("33: none of none", new OneMachine().canBeOnTime(0), true);
        CHECK.fails("33: a bit of no job", ARGUMENT, () -> new OneMachine().canBeOnTime(1));
        for (int set : new int[] {64, 65, -1, Integer.MIN_VALUE, Integer.MAX_VALUE, 1 << 30}) {
            CHECK.fails("33: below 0 or a bit of no job", ARGUMENT, () -> machine.canBeOnTime(set));
        }
        OneMachine edge = machine(job(5, 5, 1, 90, 0), job(5, 9, 1, 0, 0), job(5, 10, 1, 0, 0));
        CHECK.same("33: just on time, without release dates", edge.canBeOnTime(5), true);
        CHECK.same("33: late by 1", edge.canBeOnTime(3), false);
        CHECK.same("34: fewestLateBySets()", edge.fewestLateBySets(), 1);
        CHECK.same("34: fewestLateBySets()", machine.fewestLateBySets(), 1);
        CHECK.same("34: keeps the plan", machine.hasPlan(), true);
        CHECK.same("34: no jobs", new OneMachine().fewestLateBySets(), 0);
        OneMachine ten = withJobs(10);
        CHECK.same("34: ten jobs", ten.fewestLateBySets(), 1);
        CHECK.same("33: ten jobs", ten.canBeOnTime(1022), true);
        CHECK.same("33: ten jobs", ten.canBeOnTime(1023), false);
        CHECK.fails("33: ten jobs", ARGUMENT, () -> ten.canBeOnTime(1024));
    }

    private static void promises35To37() {
        OneMachine none = new OneMachine();
        CHECK.fails("35: no job", STATE, () -> none.windowBound(true));
        CHECK.fails("35: no job", STATE, () -> none.windowBound(false));
        CHECK.fails("36: no job", STATE, none::windowDue);
        CHECK.fails("37: no job", STATE, none::windowRelease);
        OneMachine machine = six();
        machine.planByRatios();
        CHECK.same("35: with release dates", machine.windowBound(true), 5);
        CHECK.same("35: without release dates", machine.windowBound(false), 4);
        CHECK.same("36: windowDue()", machine.windowDue(), 6);
        CHECK.same("37: windowRelease()", machine.windowRelease(), 9);
        CHECK.same("35 to 37: keep the plan", machine.hasPlan(), true);
        OneMachine early = machine(job(1, 200, 1, 50, 0));
        CHECK.same("35: below 0", early.windowBound(true), -149);
        CHECK.same("35: releases count as 0", early.windowBound(false), -199);
        CHECK.same("37: the release date itself", early.windowRelease(), 50);
        OneMachine several = machine(job(2, 20, 1, 6, 0), job(4, 10, 1, 4, 0), job(2, 10, 1, 6, 0),
                job(12, 20, 1, 0, 0));
        CHECK.same("35: both from 0 to 20 and from 4 to 10", several.windowBound(true), 0);
        CHECK.same("36: the lowest due date", several.windowDue(), 10);
        CHECK.same("37: not the lowest release date of all", several.windowRelease(), 4);
        OneMachine ties = machine(job(3, 10, 1, 5, 0), job(2, 10, 1, 3, 0), job(4, 14, 1, 5, 0), job(1, 9, 1, 7, 0));
        CHECK.same("35: windowBound(true)", ties.windowBound(true), -1);
        CHECK.same("36: of several the lowest due date", ties.windowDue(), 9);
        CHECK.same("37: windowRelease()", ties.windowRelease(), 7);
        ties.changeJob(3, 1, 10, 1, 5, 0);
        CHECK.same("35: windowBound(true)", ties.windowBound(true), -1);
        CHECK.same("36: of several the lowest due date", ties.windowDue(), 10);
        CHECK.same("37: of several the lowest release date", ties.windowRelease(), 3);
        OneMachine apart = machine(job(1, 0, 1, 0, 0), job(1, 300, 1, 100, 0));
        CHECK.same("35: a window has a job in it", apart.windowBound(true), 1);
        CHECK.same("36: windowDue()", apart.windowDue(), 0);
        OneMachine backwards = machine(job(3, 1, 1, 100, 0), job(30, 200, 1, 0, 0));
        CHECK.same("35: a due date below the release date", backwards.windowBound(true), 102);
        CHECK.same("36: windowDue()", backwards.windowDue(), 1);
        CHECK.same("37: windowRelease()", backwards.windowRelease(), 100);
    }
}
