import java.lang.reflect.Constructor;
import java.lang.reflect.Field;
import java.lang.reflect.Method;
import java.lang.reflect.Modifier;
import java.util.Set;
import java.util.TreeSet;

/** The public face is the document's, with its throws clauses, and nothing else can be seen from outside. */
public final class FaceTest {
    private static final String I = "IndexOutOfBoundsException";
    private static final String A = "IllegalArgumentException";
    private static final String S = "IllegalStateException";
    private static final Set<String> FACE = Set.of(
            "int addJob(int,int,int,int,int) " + A + " " + S,
            "void changeJob(int,int,int,int,int,int) " + I + " " + A,
            "int removeJob(int) " + I,
            "int setSetup(int,int) " + I + " " + A,
            "int jobs()",
            "int planByDueDates() " + S,
            "int planFewestLate() " + S,
            "int planByRatios() " + S,
            "int planLeastTardiness() " + S,
            "int planByFamilies() " + S,
            "int planPreemptiveByDates() " + S,
            "int planPreemptiveShortest() " + S,
            "boolean hasPlan()",
            "int pieces()",
            "int kindOf(int) " + I,
            "int whoseIs(int) " + I,
            "int startOf(int) " + I,
            "int endOf(int) " + I,
            "int completion(int) " + I + " " + S,
            "int lateness(int) " + I + " " + S,
            "int maxLateness() " + S,
            "int lateJobs() " + S,
            "int completions() " + S,
            "int weightedCompletions() " + S,
            "int weightedTardiness() " + S,
            "int leastLateness() " + S,
            "int leastCompletions() " + S,
            "int leastTardiness() " + S,
            "int leastWithSetups() " + S,
            "int leastPreemptiveLateness() " + S,
            "int leastPreemptiveCompletions() " + S,
            "boolean canBeOnTime(int) " + A,
            "int fewestLateBySets()",
            "int windowBound(boolean) " + S,
            "int windowDue() " + S,
            "int windowRelease() " + S);

    public static void main(String[] args) {
        Check check = new Check();
        Class<?> machine = OneMachine.class;
        check.count(machine.getModifiers() == (Modifier.PUBLIC | Modifier.FINAL), "the class is public and final");
        Constructor<?>[] constructors = machine.getDeclaredConstructors();
        check.same("constructors", constructors.length, 1);
        check.count(Modifier.isPublic(constructors[0].getModifiers()), "the constructor is public");
        check.same("parameters of the constructor", constructors[0].getParameterCount(), 0);
        Set<String> publicNames = new TreeSet<>();
        Set<String> found = new TreeSet<>();
        for (Method method : machine.getDeclaredMethods()) {
            if (!Modifier.isPrivate(method.getModifiers())) {
                check.count(method.getModifiers() == Modifier.PUBLIC, method + " is public alone");
                found.add(told(method));
                publicNames.add(method.getName());
            }
        }
        check.count(found.equals(new TreeSet<>(FACE)), "the face is " + found + ", due is " + new TreeSet<>(FACE));
        for (Field field : machine.getDeclaredFields()) {
            check.count(Modifier.isPrivate(field.getModifiers()), field + " is private");
        }
        for (Method method : machine.getDeclaredMethods()) {
            boolean hidden = Modifier.isPrivate(method.getModifiers());
            check.count(!hidden || !publicNames.contains(method.getName()), method + " bears the name of a public one");
        }
        for (Class<?> inside : machine.getDeclaredClasses()) {
            check.count(!Modifier.isPublic(inside.getModifiers()), inside + " is not public");
            check.count(Modifier.isStatic(inside.getModifiers()), inside + " is static");
            for (Method method : inside.getDeclaredMethods()) {
                check.count(!publicNames.contains(method.getName()), method + " bears the name of a public one");
            }
        }
        check.count(machine.getDeclaredClasses().length <= 12, "some twelve classes");
        check.finish("FaceTest");
    }

    private static String told(Method method) {
        StringBuilder told = new StringBuilder();
        told.append(method.getReturnType().getName()).append(' ').append(method.getName()).append('(');
        String separator = "";
        for (Class<?> parameter : method.getParameterTypes()) {
            told.append(separator).append(parameter.getName());
            separator = ",";
        }
        told.append(')');
        for (Class<?> thrown : method.getExceptionTypes()) {
            told.append(' ').append(thrown.getSimpleName());
        }
        return told.toString();
    }
}
