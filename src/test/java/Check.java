/** What the project's tests share: due answers, due exceptions, and the count of what was wrong. */
final class Check {
    interface Call {
        void run();
    }

    private static int checks = 0;
    private static int wrong = 0;

    private Check() {
    }

    static void due(String what, long want, long got) {
        checks++;
        if (want != got) {
            tell(what + " answered " + got + ", due is " + want);
        }
    }

    static void due(String what, String want, String got) {
        checks++;
        if (!want.equals(got)) {
            tell(what + " answered " + got + ", due is " + want);
        }
    }

    static void due(String what, boolean want, boolean got) {
        due(what, want ? 1 : 0, got ? 1 : 0);
    }

    static void dueThrow(String what, Class<? extends RuntimeException> want, Call call) {
        checks++;
        try {
            call.run();
        } catch (RuntimeException thrown) {
            if (thrown.getClass() != want) {
                tell(what + " threw " + thrown + ", due is " + want.getName());
            }
            return;
        }
        tell(what + " threw nothing, due is " + want.getName());
    }

    static void index(String what, Call call) {
        dueThrow(what, IndexOutOfBoundsException.class, call);
    }

    static void argument(String what, Call call) {
        dueThrow(what, IllegalArgumentException.class, call);
    }

    static void state(String what, Call call) {
        dueThrow(what, IllegalStateException.class, call);
    }

    static void tell(String fault) {
        wrong++;
        if (wrong <= 40) {
            System.out.println(fault);
        }
    }

    static int wrong() {
        return wrong;
    }

    static void end() {
        System.out.println(checks + " checks, " + wrong + " wrong");
        if (wrong != 0 || checks == 0) {
            System.exit(1);
        }
    }
}
