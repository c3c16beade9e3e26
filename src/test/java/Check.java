/** Counts checks, prints those that fail, and ends the program with 1 if there was one. */
final class Check {
    private String about = "";
    private int right = 0;
    private int wrong = 0;

    /** What the next checks are about: it stands ahead of their complaints. */
    void begin(String newAbout) {
        about = newAbout + ": ";
    }

    int counted() {
        return right + wrong;
    }

    void same(String what, long got, long due) {
        count(got == due, what + " answered " + got + ", due is " + due);
    }

    void same(String what, boolean got, boolean due) {
        count(got == due, what + " answered " + got + ", due is " + due);
    }

    void same(String what, String got, String due) {
        count(got.equals(due), what + " answered " + got + ", due is " + due);
    }

    void planned(String what, OneMachine machine, String due) {
        same(what, Machines.pieces(machine), due);
    }

    /** The very class is asked for: the machine's own exceptions are subclasses of those of the document. */
    void fails(String what, Class<? extends RuntimeException> due, Runnable call) {
        Class<?> got = null;
        try {
            call.run();
        } catch (RuntimeException e) {
            got = e.getClass();
        }
        count(got == due, what + " threw " + got + ", due is " + due);
    }

    void count(boolean isRight, String complaint) {
        if (isRight) {
            right++;
        } else {
            wrong++;
            System.out.println("wrong: " + about + complaint);
        }
    }

    void finish(String name) {
        System.out.println(name + ": " + right + " checks right, " + wrong + " wrong");
        if (wrong > 0 || right == 0) {
            System.exit(1);
        }
    }
}
