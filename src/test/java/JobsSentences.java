import java.util.function.IntConsumer;

/** The sentences of the promises 1 to 6: the jobs and the setup times. */
final class JobsSentences {
    private static final Class<IllegalArgumentException> ARGUMENT = IllegalArgumentException.class;
    private static final Class<IllegalStateException> STATE = IllegalStateException.class;
    private static final Class<IndexOutOfBoundsException> INDEX = IndexOutOfBoundsException.class;

    private static final int LENGTH = 0;
    private static final int DUE = 1;
    private static final int WEIGHT = 2;
    private static final int RELEASE = 3;
    private static final int FAMILY = 4;
    private static final int[] LOW = {1, 0, 1, 0, 0};
    private static final int[] HIGH = {30, 300, 20, 100, 3};
    private static final int[] NO_JOB = {0, -1, 21, 101, 4};

    private JobsSentences() {
    }

    static void test(Sentences said) {
        said.in("Promise 1: A new object");
        said.that("No jobs, setup times of 0, no plan.", JobsSentences::newObject);
        testAdding(said);
        testChanging(said);
        said.in("Promise 4: removeJob");
        said.that("Removes a job; the numbers of those above it become 1 lower.", JobsSentences::removes);
        said.that("- `job`: its number", JobsSentences::removesAnyNumber);
        said.that("Returns how many jobs are left.", JobsSentences::removeTellsHowManyAreLeft);
        said.that("Throws `IndexOutOfBoundsException` if there is no such job", JobsSentences::removesNoSuchJob);
        said.in("Promise 5: setSetup");
        said.that("Sets the setup time of a family.", JobsSentences::setsSetup);
        said.that("- `family`: 0 to 3", JobsSentences::setupOfEachFamily);
        said.that("- `time`: 0 to 20", JobsSentences::setupOfEachTime);
        said.that("Returns the setup time before.", JobsSentences::setupBefore);
        said.that("Throws `IndexOutOfBoundsException` if there is no such family", JobsSentences::noSuchFamily);
        said.that("Throws `IllegalArgumentException` if time is out of range", JobsSentences::timeOutOfRange);
        said.in("Promise 6: jobs");
        said.that("Returns the number of jobs; this changes nothing.", JobsSentences::tellsJobs);
    }

    private static void testAdding(Sentences said) {
        said.in("Promise 2: addJob");
        said.that("Adds a job.", JobsSentences::adds);
        said.that("- `length`: 1 to 30", check -> addsWithin(check, LENGTH));
        said.that("- `due`: 0 to 300", check -> addsWithin(check, DUE));
        said.that("- `weight`: 1 to 20", check -> addsWithin(check, WEIGHT));
        said.that("- `release`: 0 to 100", check -> addsWithin(check, RELEASE));
        said.that("- `family`: 0 to 3", check -> addsWithin(check, FAMILY));
        said.that("Returns its number.", JobsSentences::addTellsNumber);
        said.that("Throws `IllegalArgumentException` if length, due, weight, release or family is out of range",
                JobsSentences::addsNothingOutOfRange);
        said.that("Throws `IllegalStateException` if there are 10 jobs", JobsSentences::addsNoEleventh);
    }

    private static void testChanging(Sentences said) {
        said.in("Promise 3: changeJob");
        said.that("Changes a job.", JobsSentences::changes);
        said.that("- `job`: its number", JobsSentences::changesAnyNumber);
        said.that("- `length`: 1 to 30", check -> changesWithin(check, LENGTH));
        said.that("- `due`: 0 to 300", check -> changesWithin(check, DUE));
        said.that("- `weight`: 1 to 20", check -> changesWithin(check, WEIGHT));
        said.that("- `release`: 0 to 100", check -> changesWithin(check, RELEASE));
        said.that("- `family`: 0 to 3", check -> changesWithin(check, FAMILY));
        said.that("Throws `IndexOutOfBoundsException` if there is no such job", JobsSentences::changesNoSuchJob);
        said.that("Throws `IllegalArgumentException` if length, due, weight, release or family is out of range",
                JobsSentences::changesNothingOutOfRange);
    }

    // ---- what a machine with one job tells of it

    private static int[] ordinary() {
        return new int[] {3, 40, 2, 5, 1};
    }

    private static int[] ordinaryBut(int which, int value) {
        int[] job = ordinary();
        job[which] = value;
        return job;
    }

    private static int told(OneMachine machine, int which) {
        for (int family = 0; family < 4; family++) {
            machine.setSetup(family, 1);
        }
        if (which == FAMILY) {
            machine.planByFamilies();
            return machine.whoseIs(0);
        }
        if (which == RELEASE) {
            machine.planPreemptiveByDates();
            return machine.startOf(machine.pieces() - 1);
        }
        machine.planByDueDates();
        if (which == WEIGHT) {
            return machine.weightedCompletions() / machine.completions();
        }
        return which == LENGTH ? machine.endOf(0) : machine.completion(0) - machine.lateness(0);
    }

    /** Just outside and far outside, and those of which a byte, a short or half an int would be in the range. */
    private static int[] outside(int low, int high) {
        return new int[] {low - 1, high + 1, -high - 1, high + 1000, low + 512, low - 512, low + 65536, low - 65536,
            low + (1 << 30), Integer.MIN_VALUE + low, Integer.MIN_VALUE, Integer.MAX_VALUE};
    }

    private static void refuses(Check check, int[] values, Class<? extends RuntimeException> due, IntConsumer call) {
        for (int value : values) {
            check.fails("with " + value, due, () -> call.accept(value));
        }
    }

    // ---- new objects

    private static void newObject(Check check) {
        OneMachine machine = new OneMachine();
        check.same("jobs()", machine.jobs(), 0);
        check.same("hasPlan()", machine.hasPlan(), false);
        check.same("pieces()", machine.pieces(), 0);
        check.fails("planByDueDates()", STATE, machine::planByDueDates);
        check.fails("completions()", STATE, machine::completions);
        check.fails("completion(0)", INDEX, () -> machine.completion(0));
        check.fails("kindOf(0)", INDEX, () -> machine.kindOf(0));
        for (int family = 0; family < 4; family++) {
            check.same("setSetup", machine.setSetup(family, family + 1), 0);
        }
        machine.addJob(1, 1, 1, 1, 1);
        machine.planByRatios();
        OneMachine another = new OneMachine();
        check.same("jobs() of another one", another.jobs(), 0);
        check.same("hasPlan() of another one", another.hasPlan(), false);
        check.same("setSetup of another one", another.setSetup(3, 0), 0);
    }

    // ---- addJob

    private static void adds(Check check) {
        OneMachine machine = Machines.of(new int[][] {{4, 9, 2, 3, 1}});
        machine.addJob(2, 7, 5, 6, 0);
        check.same("jobs()", machine.jobs(), 2);
        machine.planByDueDates();
        check.planned("length and due date", machine, "j1:2 j0:6");
        check.same("lateness(1)", machine.lateness(1), -5);
        check.same("weightedCompletions()", machine.weightedCompletions(), 5 * 2 + 2 * 6);
        machine.planPreemptiveByDates();
        check.planned("release date", machine, "-:3 j0:6 j1:8 j0:9");
        machine.setSetup(0, 8);
        machine.planByFamilies();
        check.planned("family", machine, "s0:8 j1:10 j0:14");
        check.same("another one like it", machine.addJob(2, 7, 5, 6, 0), 2);
        check.same("jobs()", machine.jobs(), 3);
    }

    private static void addsWithin(Check check, int which) {
        for (int value = LOW[which]; value <= HIGH[which]; value++) {
            OneMachine machine = new OneMachine();
            check.same("addJob with " + value, Machines.add(machine, ordinaryBut(which, value)), 0);
            check.same("what was added with " + value, told(machine, which), value);
        }
        OneMachine machine = new OneMachine();
        refuses(check, outside(LOW[which], HIGH[which]), ARGUMENT,
                value -> Machines.add(machine, ordinaryBut(which, value)));
        check.same("jobs() after those refused", machine.jobs(), 0);
    }

    private static void addTellsNumber(Check check) {
        OneMachine machine = new OneMachine();
        for (int number = 0; number < 10; number++) {
            check.same("addJob", machine.addJob(1, 0, 1, 0, 0), number);
        }
        machine.removeJob(0);
        machine.removeJob(4);
        check.same("addJob behind removed ones", machine.addJob(1, 0, 1, 0, 0), 8);
        check.same("addJob as the tenth again", machine.addJob(1, 0, 1, 0, 0), 9);
        OneMachine refused = Machines.withJobs(3);
        check.fails("addJob out of range", ARGUMENT, () -> refused.addJob(0, 0, 1, 0, 0));
        check.same("addJob behind a refused one", refused.addJob(1, 0, 1, 0, 0), 3);
    }

    private static void addsNothingOutOfRange(Check check) {
        OneMachine machine = Machines.six();
        machine.planByFamilies();
        String before = Machines.asked(machine);
        for (int which = 0; which < 5; which++) {
            int one = which;
            check.fails("only number " + which, ARGUMENT,
                    () -> Machines.add(machine, ordinaryBut(one, NO_JOB[one])));
        }
        check.fails("all of them", ARGUMENT, () -> Machines.add(machine, NO_JOB));
        check.same("everything after that", Machines.asked(machine), before);
        check.same("addJob at all low ends", Machines.add(machine, LOW), 6);
        check.same("addJob at all high ends", Machines.add(machine, HIGH), 7);
    }

    private static void addsNoEleventh(Check check) {
        OneMachine machine = Machines.withJobs(9);
        check.same("a tenth", Machines.add(machine, ordinary()), 9);
        machine.planByFamilies();
        String before = Machines.asked(machine);
        check.fails("an eleventh", STATE, () -> Machines.add(machine, ordinary()));
        check.fails("an eleventh once more", STATE, () -> Machines.add(machine, LOW));
        check.same("everything after that", Machines.asked(machine), before);
        machine.removeJob(3);
        check.same("a tenth again", Machines.add(machine, HIGH), 9);
        check.fails("an eleventh again", STATE, () -> Machines.add(machine, HIGH));
    }

    // ---- changeJob

    private static void changes(Check check) {
        OneMachine machine = Machines.of(new int[][] {{1, 1, 1, 0, 0}, {2, 2, 2, 0, 0}});
        machine.changeJob(1, 5, 40, 3, 60, 2);
        check.same("jobs()", machine.jobs(), 2);
        machine.planByDueDates();
        check.planned("the new length", machine, "j0:1 j1:6");
        check.same("the new due date", machine.lateness(1), -34);
        check.same("the new weight", machine.weightedCompletions(), 1 + 3 * 6);
        machine.planPreemptiveByDates();
        check.planned("the new release date", machine, "j0:1 -:60 j1:65");
        machine.setSetup(2, 7);
        machine.planByFamilies();
        check.planned("the new family", machine, "j0:1 s2:8 j1:13");
        changesAll(check);
    }

    /** Nothing of the jobs before may stay, though all rules have planned with them. */
    private static void changesAll(Check check) {
        int[][] jobs = {{2, 1, 9, 3, 0}, {9, 2, 1, 30, 1}, {1, 90, 3, 5, 1}, {7, 8, 8, 0, 1}, {4, 7, 6, 2, 0},
            {5, 40, 2, 12, 3}};
        OneMachine machine = Machines.six();
        Machines.whole(machine);
        for (int job = 0; job < 6; job++) {
            Machines.change(machine, job, jobs[job]);
        }
        check.same("all that is known", Machines.whole(machine), Machines.whole(Machines.of(jobs)));
    }

    private static void changesAnyNumber(Check check) {
        for (int count = 1; count <= 10; count++) {
            for (int number = 0; number < count; number++) {
                OneMachine machine = Machines.alike(count, new int[] {2, 100, 1, 0, 0});
                machine.changeJob(number, 9, 7, 1, 0, 0);
                machine.planByDueDates();
                check.same("the first piece", machine.whoseIs(0), number);
                check.same("its end", machine.endOf(0), 9);
                check.same("jobs()", machine.jobs(), count);
                check.same("the sum of lengths", machine.endOf(count - 1), 9 + 2 * (count - 1));
            }
        }
    }

    private static void changesWithin(Check check, int which) {
        OneMachine machine = Machines.alike(1, ordinary());
        for (int value = LOW[which]; value <= HIGH[which]; value++) {
            Machines.change(machine, 0, ordinaryBut(which, value));
            check.same("what was changed to " + value, told(machine, which), value);
        }
        Machines.change(machine, 0, ordinary());
        refuses(check, outside(LOW[which], HIGH[which]), ARGUMENT,
                value -> Machines.change(machine, 0, ordinaryBut(which, value)));
        check.same("what it was before those refused", told(machine, which), ordinary()[which]);
    }

    private static void changesNoSuchJob(Check check) {
        OneMachine machine = Machines.withJobs(3);
        machine.planByRatios();
        String before = Machines.asked(machine);
        refuses(check, outside(0, 2), INDEX, number -> Machines.change(machine, number, ordinary()));
        refuses(check, outside(0, 2), INDEX, number -> Machines.change(machine, number, NO_JOB));
        check.same("everything after that", Machines.asked(machine), before);
        machine.removeJob(2);
        check.fails("one that is removed", INDEX, () -> Machines.change(machine, 2, ordinary()));
        OneMachine none = new OneMachine();
        check.fails("no job at all", INDEX, () -> Machines.change(none, 0, ordinary()));
        check.same("jobs()", none.jobs(), 0);
        check.fails("behind the tenth", INDEX, () -> Machines.change(Machines.withJobs(10), 10, ordinary()));
    }

    private static void changesNothingOutOfRange(Check check) {
        OneMachine machine = Machines.six();
        machine.planByFamilies();
        String before = Machines.asked(machine);
        for (int which = 0; which < 5; which++) {
            int one = which;
            check.fails("only number " + which, ARGUMENT,
                    () -> Machines.change(machine, 5, ordinaryBut(one, NO_JOB[one])));
        }
        check.fails("all of them", ARGUMENT, () -> Machines.change(machine, 0, NO_JOB));
        check.same("everything after that", Machines.asked(machine), before);
        check.same("all that it knows", Machines.whole(machine), Machines.whole(plannedSix()));
    }

    private static OneMachine plannedSix() {
        OneMachine machine = Machines.six();
        machine.planByFamilies();
        return machine;
    }

    // ---- removeJob

    private static void removes(Check check) {
        OneMachine machine = Machines.of(new int[][] {{1, 1, 1, 0, 0}, {2, 9, 2, 5, 1}, {3, 4, 3, 0, 2},
            {4, 70, 4, 30, 3}});
        machine.removeJob(1);
        machine.planByDueDates();
        check.planned("lengths go along", machine, "j0:1 j1:4 j2:8");
        check.same("due dates go along", machine.lateness(2), -62);
        check.same("weights go along", machine.weightedCompletions(), 1 + 3 * 4 + 4 * 8);
        machine.planPreemptiveByDates();
        check.planned("release dates go along", machine, "j0:1 j1:4 -:30 j2:34");
        machine.setSetup(3, 6);
        machine.planByFamilies();
        check.planned("families go along", machine, "j0:1 j1:4 s3:10 j2:14");
        check.fails("the highest number is gone", INDEX, () -> machine.completion(3));
        machine.removeJob(2);
        machine.planByDueDates();
        check.planned("below the last one nothing is different", machine, "j0:1 j1:4");
    }

    private static void removesAnyNumber(Check check) {
        for (int count = 1; count <= 10; count++) {
            for (int number = 0; number < count; number++) {
                OneMachine machine = new OneMachine();
                OneMachine without = new OneMachine();
                for (int job = 0; job < count; job++) {
                    machine.addJob(1 + job, 20 - job, 1 + job, 10 * job, job % 4);
                    if (job != number) {
                        without.addJob(1 + job, 20 - job, 1 + job, 10 * job, job % 4);
                    }
                }
                machine.removeJob(number);
                check.same("all that is known", Machines.whole(machine), Machines.whole(without));
            }
        }
    }

    private static void removeTellsHowManyAreLeft(Check check) {
        OneMachine machine = Machines.withJobs(10);
        for (int left = 9; left >= 0; left--) {
            check.same("removeJob", machine.removeJob(left / 2), left);
            check.same("jobs()", machine.jobs(), left);
        }
        check.same("addJob with none left", machine.addJob(1, 1, 1, 1, 1), 0);
    }

    private static void removesNoSuchJob(Check check) {
        OneMachine machine = Machines.six();
        machine.planByFamilies();
        String before = Machines.asked(machine);
        refuses(check, outside(0, 5), INDEX, machine::removeJob);
        check.same("everything after that", Machines.asked(machine), before);
        check.same("all that it knows", Machines.whole(machine), Machines.whole(plannedSix()));
        OneMachine none = Machines.withJobs(1);
        none.removeJob(0);
        check.fails("none left", INDEX, () -> none.removeJob(0));
        check.same("jobs()", none.jobs(), 0);
        check.fails("a new object", INDEX, () -> new OneMachine().removeJob(0));
        check.fails("behind the tenth", INDEX, () -> Machines.withJobs(10).removeJob(10));
    }

    // ---- setSetup

    private static void setsSetup(Check check) {
        OneMachine machine = Machines.of(new int[][] {{1, 1, 1, 0, 2}, {1, 1, 1, 0, 3}});
        machine.setSetup(2, 5);
        machine.planByFamilies();
        check.planned("a first time", machine, "s2:5 j0:6 j1:7");
        machine.setSetup(2, 0);
        machine.setSetup(3, 7);
        machine.planByFamilies();
        check.planned("another time", machine, "j0:1 s3:8 j1:9");
    }

    private static void setupOfEachFamily(Check check) {
        for (int family = 0; family < 4; family++) {
            OneMachine machine = Machines.of(new int[][] {{1, 1, 1, 0, family}});
            for (int other = 0; other < 4; other++) {
                check.same("setSetup", machine.setSetup(other, other == family ? 9 : 4), 0);
            }
            machine.planByFamilies();
            check.planned("with its own setup", machine, "s" + family + ":9 j0:10");
        }
        OneMachine machine = new OneMachine();
        refuses(check, outside(0, 3), INDEX, family -> machine.setSetup(family, 5));
    }

    private static void setupOfEachTime(Check check) {
        OneMachine machine = Machines.of(new int[][] {{1, 1, 1, 0, 3}});
        for (int time = 0; time <= 20; time++) {
            machine.setSetup(3, time);
            machine.planByFamilies();
            check.same("completion(0)", machine.completion(0), time + 1);
        }
        refuses(check, outside(0, 20), ARGUMENT, time -> machine.setSetup(3, time));
    }

    private static void setupBefore(Check check) {
        OneMachine machine = new OneMachine();
        for (int family = 0; family < 4; family++) {
            check.same("at first", machine.setSetup(family, 20 - family), 0);
        }
        for (int family = 3; family >= 0; family--) {
            check.same("the one before", machine.setSetup(family, 0), 20 - family);
            check.same("0 before", machine.setSetup(family, 7), 0);
            check.same("the same again", machine.setSetup(family, 7), 7);
        }
        check.fails("time out of range", ARGUMENT, () -> machine.setSetup(1, 21));
        check.same("before a refused one", machine.setSetup(1, 8), 7);
    }

    private static void noSuchFamily(Check check) {
        OneMachine machine = plannedSix();
        String before = Machines.asked(machine);
        refuses(check, outside(0, 3), INDEX, family -> machine.setSetup(family, 1));
        refuses(check, outside(0, 3), INDEX, family -> machine.setSetup(family, 21));
        check.same("everything after that", Machines.asked(machine), before);
        check.same("all that it knows", Machines.whole(machine), Machines.whole(plannedSix()));
    }

    private static void timeOutOfRange(Check check) {
        OneMachine machine = plannedSix();
        String before = Machines.asked(machine);
        for (int family = 0; family < 4; family++) {
            int one = family;
            refuses(check, outside(0, 20), ARGUMENT, time -> machine.setSetup(one, time));
        }
        check.same("everything after that", Machines.asked(machine), before);
        check.same("all that it knows", Machines.whole(machine), Machines.whole(plannedSix()));
    }

    // ---- jobs

    private static void tellsJobs(Check check) {
        OneMachine machine = new OneMachine();
        for (int count = 0; count < 10; count++) {
            check.same("jobs()", machine.jobs(), count);
            machine.addJob(1, 1, 1, 1, 1);
        }
        check.same("jobs() when full", machine.jobs(), 10);
        machine.removeJob(9);
        check.same("jobs() with one removed", machine.jobs(), 9);
        OneMachine planned = plannedSix();
        String before = Machines.asked(planned);
        check.same("jobs()", planned.jobs(), 6);
        check.same("hasPlan()", planned.hasPlan(), true);
        check.same("everything after jobs()", Machines.asked(planned), before);
    }
}
