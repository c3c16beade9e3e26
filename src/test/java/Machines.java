import java.util.LinkedHashMap;
import java.util.Map;
import java.util.function.Function;
import java.util.function.ToIntFunction;

/** Machines that the tests begin with, and all that a machine tells. */
final class Machines {
    static final Map<String, ToIntFunction<OneMachine>> RULES = rules();
    private static final Map<String, Function<OneMachine, Object>> ASKS = asks();

    private Machines() {
    }

    /** Each job as its length, due date, weight, release date and family; those left out are 1, 1, 1, 0 and 0. */
    static OneMachine of(int[][] jobs) {
        OneMachine machine = new OneMachine();
        for (int[] told : jobs) {
            int[] job = {1, 1, 1, 0, 0};
            System.arraycopy(told, 0, job, 0, told.length);
            add(machine, job);
        }
        return machine;
    }

    static int add(OneMachine machine, int[] job) {
        return machine.addJob(job[0], job[1], job[2], job[3], job[4]);
    }

    static void change(OneMachine machine, int number, int[] job) {
        machine.changeJob(number, job[0], job[1], job[2], job[3], job[4]);
    }

    /** As many jobs, each of the length 1 and due at its number. */
    static OneMachine withJobs(int count) {
        OneMachine machine = new OneMachine();
        for (int job = 0; job < count; job++) {
            machine.addJob(1, job, 1, 0, 0);
        }
        return machine;
    }

    /** As many jobs, all alike. */
    static OneMachine alike(int count, int[] job) {
        OneMachine machine = new OneMachine();
        for (int number = 0; number < count; number++) {
            add(machine, job);
        }
        return machine;
    }

    /** Six jobs of three families, released at several times, with setup times of 3, 1 and 5. */
    static OneMachine six() {
        OneMachine machine = of(new int[][] {{7, 20, 3, 0, 0}, {3, 9, 5, 4, 1}, {8, 15, 2, 0, 0},
            {2, 6, 8, 9, 1}, {6, 30, 1, 2, 2}, {4, 11, 4, 12, 0}});
        machine.setSetup(0, 3);
        machine.setSetup(1, 1);
        machine.setSetup(2, 5);
        return machine;
    }

    /** The lengths, due dates and weights of six(), without its release dates, families and setup times. */
    static OneMachine sixPlain() {
        return of(new int[][] {{7, 20, 3}, {3, 9, 5}, {8, 15, 2}, {2, 6, 8}, {6, 30, 1}, {4, 11, 4}});
    }

    /** For each piece j for a job, s for a setup or - for idle, then whose it is and its end: such as "-:5 j0:8". */
    static String pieces(OneMachine machine) {
        StringBuilder told = new StringBuilder();
        for (int piece = 0; piece < machine.pieces(); piece++) {
            int kind = machine.kindOf(piece);
            told.append(piece == 0 ? "" : " ").append(kind == 0 ? "j" : kind == 1 ? "s" : "-");
            told.append(kind == 2 ? "" : machine.whoseIs(piece)).append(':').append(machine.endOf(piece));
        }
        return told.toString();
    }

    /** What a machine answers to all that changes nothing. */
    static String asked(OneMachine machine) {
        StringBuilder told = new StringBuilder();
        ASKS.forEach((name, ask) -> told.append(name).append('=').append(answer(machine, ask)).append(' '));
        for (int job = 0; job < machine.jobs(); job++) {
            int number = job;
            told.append(answer(machine, asked -> asked.completion(number))).append(' ');
            told.append(answer(machine, asked -> asked.lateness(number))).append(' ');
            told.append(machine.canBeOnTime(1 << job)).append(' ');
        }
        return told.append(pieces(machine)).toString();
    }

    /** All that a machine knows: also what its rules plan, and at the end its setup times, which are 0 from then on. */
    static String whole(OneMachine machine) {
        StringBuilder told = new StringBuilder(asked(machine));
        RULES.forEach((name, rule) -> {
            told.append('\n').append(name).append('=').append(answer(machine, rule::applyAsInt)).append(' ');
            told.append(answer(machine, OneMachine::weightedCompletions)).append(' ').append(pieces(machine));
        });
        for (int family = 0; family < 4; family++) {
            told.append('\n').append(machine.setSetup(family, 0));
        }
        return told.toString();
    }

    private static String answer(OneMachine machine, Function<OneMachine, Object> ask) {
        try {
            return String.valueOf(ask.apply(machine));
        } catch (RuntimeException e) {
            return e.getClass().getName();
        }
    }

    private static Map<String, ToIntFunction<OneMachine>> rules() {
        Map<String, ToIntFunction<OneMachine>> rules = new LinkedHashMap<>();
        rules.put("planByDueDates", OneMachine::planByDueDates);
        rules.put("planFewestLate", OneMachine::planFewestLate);
        rules.put("planByRatios", OneMachine::planByRatios);
        rules.put("planLeastTardiness", OneMachine::planLeastTardiness);
        rules.put("planByFamilies", OneMachine::planByFamilies);
        rules.put("planPreemptiveByDates", OneMachine::planPreemptiveByDates);
        rules.put("planPreemptiveShortest", OneMachine::planPreemptiveShortest);
        return rules;
    }

    private static Map<String, Function<OneMachine, Object>> asks() {
        Map<String, Function<OneMachine, Object>> asks = new LinkedHashMap<>();
        asks.put("jobs", OneMachine::jobs);
        asks.put("hasPlan", OneMachine::hasPlan);
        asks.put("maxLateness", OneMachine::maxLateness);
        asks.put("lateJobs", OneMachine::lateJobs);
        asks.put("completions", OneMachine::completions);
        asks.put("weightedCompletions", OneMachine::weightedCompletions);
        asks.put("weightedTardiness", OneMachine::weightedTardiness);
        asks.put("leastLateness", OneMachine::leastLateness);
        asks.put("leastCompletions", OneMachine::leastCompletions);
        asks.put("leastTardiness", OneMachine::leastTardiness);
        asks.put("leastWithSetups", OneMachine::leastWithSetups);
        asks.put("leastPreemptiveLateness", OneMachine::leastPreemptiveLateness);
        asks.put("leastPreemptiveCompletions", OneMachine::leastPreemptiveCompletions);
        asks.put("fewestLateBySets", OneMachine::fewestLateBySets);
        asks.put("windowBound(true)", machine -> machine.windowBound(true));
        asks.put("windowBound(false)", machine -> machine.windowBound(false));
        asks.put("windowDue", OneMachine::windowDue);
        asks.put("windowRelease", OneMachine::windowRelease);
        return asks;
    }
}
