import java.util.Objects;

/** Runs tests one by one and counts those that failed. */
final class Check {
    interface Body {
        void run() throws Exception;
    }

    private int failures;

    void test(String name, Body body) {
        try {
            body.run();
            System.out.println("PASS " + name);
        } catch (Throwable problem) {
            failures++;
            System.out.println("FAIL " + name + ": " + problem);
        }
    }

    int failures() {
        return failures;
    }

    static void same(Object due, Object answer) {
        if (!Objects.equals(due, answer)) {
            throw new AssertionError("answered " + answer + ", due is " + due);
        }
    }

    static void holds(boolean condition) {
        same(true, condition);
    }

    /** The call must throw this very class: a subclass would be the machine's own. */
    static void refuses(Class<? extends RuntimeException> due, Body call) {
        Class<?> thrown = null;
        try {
            call.run();
        } catch (Exception problem) {
            thrown = problem.getClass();
        }
        same(due, thrown);
    }
}
