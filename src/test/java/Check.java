/** Counts what holds and what does not; close() ends the test's program with 1 if something did not hold. */
final class Check {
    private static int held = 0;
    private static int wrong = 0;

    private Check() {
    }

    static void same(String what, long got, long due) {
        note(got == due, what + " answered " + got + ", due is " + due);
    }

    static void same(String what, boolean got, boolean due) {
        note(got == due, what + " answered " + got + ", due is " + due);
    }

    static void same(String what, double got, double due) {
        note(got == due, what + " answered " + got + ", due is " + due);
    }

    static void same(String what, Object got, Object due) {
        note(got == null ? due == null : got.equals(due), what + " answered " + got + ", due is " + due);
    }

    static void raises(String what, Class<? extends RuntimeException> due, Runnable call) {
        String got = "nothing";
        try {
            call.run();
        } catch (RuntimeException thrown) {
            got = thrown.getClass().getName();
        }
        note(got.equals(due.getName()), what + " threw " + got + ", due is " + due.getName());
    }

    static void raisesIndex(String what, Runnable call) {
        raises(what, IndexOutOfBoundsException.class, call);
    }

    static void raisesArgument(String what, Runnable call) {
        raises(what, IllegalArgumentException.class, call);
    }

    static void raisesState(String what, Runnable call) {
        raises(what, IllegalStateException.class, call);
    }

    static void raisesElement(String what, Runnable call) {
        raises(what, java.util.NoSuchElementException.class, call);
    }

    static void note(boolean holds, String what) {
        if (holds) {
            held++;
        } else {
            wrong++;
            if (wrong <= 40) {
                System.out.println("wrong: " + what);
            }
        }
    }

    static void close() {
        System.out.println(held + " held, " + wrong + " wrong");
        if (wrong != 0) {
            System.exit(1);
        }
    }
}
