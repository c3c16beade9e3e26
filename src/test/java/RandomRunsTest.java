import java.lang.reflect.InvocationTargetException;
import java.lang.reflect.Method;
import java.util.ArrayList;
import java.util.Arrays;
import java.util.Comparator;
import java.util.List;

/** Runs of calls, the same ones every time, on OneMachine and on NaiveMachine: every answer must be the same. */
public final class RandomRunsTest {
    private static final int CALLS = 512;
    private static final Check CHECK = new Check();
    private static final List<Method> SLOW_FACE = face(NaiveMachine.class);
    private static final List<Method> FACE = face(OneMachine.class);

    private long seed;

    private RandomRunsTest(long seed) {
        this.seed = seed;
    }

    public static void main(String[] args) throws IllegalAccessException {
        for (int run = 0; run < 60; run++) {
            new RandomRunsTest(run).play(run);
        }
        CHECK.finish("RandomRunsTest");
    }

    private static List<Method> face(Class<?> machine) {
        List<Method> face = new ArrayList<>();
        for (Method method : machine.getDeclaredMethods()) {
            if (java.lang.reflect.Modifier.isPublic(method.getModifiers())) {
                face.add(method);
            }
        }
        face.sort(Comparator.comparing(Method::getName));
        return face;
    }

    private int below(int bound) {
        seed = seed * 6364136223846793005L + 1442695040888963407L;
        return (int) ((seed >>> 33) % bound);
    }

    private int within(int low, int high) {
        return low + below(high - low + 1);
    }

    /** Mostly in the range, now and then at its edges or just outside, rarely far off. */
    private int around(int low, int high, boolean wild) {
        int way = below(wild ? 12 : 400);
        if (way == 0) {
            return new int[] {low - 1, high + 1, Integer.MIN_VALUE, Integer.MAX_VALUE, low, high}[below(6)];
        }
        return within(low, high);
    }

    private void play(int run) throws IllegalAccessException {
        OneMachine machine = new OneMachine();
        NaiveMachine slow = new NaiveMachine();
        boolean close = run % 2 == 0;
        int most = run % 5 == 0 ? 10 : within(1, 8);
        StringBuilder told = new StringBuilder();
        for (int call = 0; call < CALLS; call++) {
            int which = pick(slow, most);
            Method method = FACE.get(which);
            Object[] arguments = arguments(method, slow, close, run % 3 == 0);
            String due = answer(SLOW_FACE.get(which), slow, arguments);
            String got = answer(method, machine, arguments);
            told.append(' ').append(method.getName()).append(Arrays.toString(arguments));
            if (!got.equals(due)) {
                CHECK.count(false, "run " + run + ":" + told + " answered " + got + ", due is " + due);
                return;
            }
            CHECK.count(true, "");
        }
    }

    private int pick(NaiveMachine slow, int most) {
        if (slow.jobs() < most && below(3) > 0) {
            return numberOf("addJob");
        }
        int which = below(FACE.size());
        String name = FACE.get(which).getName();
        boolean dear = name.startsWith("least") || name.equals("planByFamilies") || name.equals("planLeastTardiness");
        boolean drops = name.equals("removeJob") || name.equals("changeJob") || name.equals("setSetup");
        boolean again = dear && below(4) > 0 || drops && below(2) > 0 || name.equals("addJob") && below(4) > 0;
        if (again) {
            String[] instead = {"kindOf", "whoseIs", "startOf", "endOf", "completion", "lateness", "planByFamilies"};
            return numberOf(instead[below(slow.jobs() > 8 ? 6 : 7)]);
        }
        return which;
    }

    private static int numberOf(String name) {
        for (int which = 0; which < FACE.size(); which++) {
            if (FACE.get(which).getName().equals(name)) {
                return which;
            }
        }
        throw new IllegalStateException(name);
    }

    private Object[] arguments(Method method, NaiveMachine slow, boolean close, boolean wild) {
        switch (method.getName()) {
            case "addJob":
                return job(null, close, wild);
            case "changeJob":
                return job(around(0, Math.max(0, slow.jobs() - 1), wild), close, wild);
            case "setSetup":
                return new Object[] {around(0, 3, wild), around(0, close ? 3 : 20, wild)};
            case "canBeOnTime":
                return new Object[] {around(0, (1 << slow.jobs()) - 1, wild)};
            case "windowBound":
                return new Object[] {below(2) == 0};
            case "kindOf", "whoseIs", "startOf", "endOf":
                return new Object[] {around(0, Math.max(0, slow.pieces() - 1), wild)};
            case "removeJob", "completion", "lateness":
                return new Object[] {around(0, Math.max(0, slow.jobs() - 1), wild)};
            default:
                return new Object[0];
        }
    }

    /** Close numbers make many ties. */
    private Object[] job(Integer number, boolean close, boolean wild) {
        List<Object> arguments = new ArrayList<>();
        if (number != null) {
            arguments.add(number);
        }
        int way = below(4);
        arguments.add(around(1, close ? 4 : 30, wild));
        arguments.add(around(0, close ? 12 : way == 0 ? 300 : 120, wild));
        arguments.add(around(1, close ? 3 : 20, wild));
        arguments.add(around(0, close ? 8 : way == 1 ? 20 : 100, wild));
        arguments.add(around(0, way == 2 ? 1 : 3, wild));
        return arguments.toArray();
    }

    private static String answer(Method method, Object machine, Object[] arguments) throws IllegalAccessException {
        try {
            return String.valueOf(method.invoke(machine, arguments));
        } catch (InvocationTargetException e) {
            return "throws " + e.getCause().getClass().getName();
        }
    }
}
