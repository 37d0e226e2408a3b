/** Counts the answers that are not as due. */
final class Check {
    private static int wrong = 0;
    private static String sentence = "";

    private Check() {
    }

    /** Names what the test that begins here holds to the class: it goes ahead of each failure. */
    static void sentence(String told) {
        sentence = "[" + told + "] ";
    }

    static void equal(String what, long got, long due) {
        if (got != due) {
            fail(what + " answered " + got + ", due is " + due);
        }
    }

    static void equal(String what, double got, double due) {
        if (Double.compare(got, due) != 0) {
            fail(what + " answered " + got + ", due is " + due);
        }
    }

    static void equal(String what, String got, String due) {
        if (!got.equals(due)) {
            fail(what + " answered " + got + ", due is " + due);
        }
    }

    /** Checks that a call throws just this exception, not one of a class below it. */
    static void throwing(String what, Class<? extends RuntimeException> due, Runnable call) {
        try {
            call.run();
            fail(what + " threw nothing, due is " + due.getSimpleName());
        } catch (RuntimeException thrown) {
            if (thrown.getClass() != due) {
                fail(what + " threw " + thrown + ", due is " + due.getSimpleName());
            }
        }
    }

    static void badIndex(String what, Runnable call) {
        throwing(what, IndexOutOfBoundsException.class, call);
    }

    static void badArgument(String what, Runnable call) {
        throwing(what, IllegalArgumentException.class, call);
    }

    static void badState(String what, Runnable call) {
        throwing(what, IllegalStateException.class, call);
    }

    static void fail(String text) {
        wrong++;
        System.out.println(sentence + text);
    }

    static int wrong() {
        return wrong;
    }

    static void end() {
        System.out.println(wrong == 0 ? "all answers are as due" : wrong + " answers are not as due");
        if (wrong != 0) {
            System.exit(1);
        }
    }
}
