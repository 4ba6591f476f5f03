/** Counts the answers of a test that are not the ones that are due, and ends the test. */
final class Check {
    interface Call {
        void run();
    }

    private static int checks = 0;
    private static int wrong = 0;
    private static String test = "";

    private Check() {
    }

    /** What is told from now on bears this name ahead of it. */
    static void begin(String name) {
        test = name;
    }

    static int count() {
        return checks;
    }

    static void is(String what, long got, long due) {
        checks++;
        if (got != due) {
            tell(what + " answered " + got + ", due is " + due);
        }
    }

    static void isDouble(String what, double got, double due) {
        checks++;
        if (Double.compare(got, due) != 0) {
            tell(what + " answered " + got + ", due is " + due);
        }
    }

    static void same(String what, Object got, Object due) {
        checks++;
        if (!java.util.Objects.equals(got, due)) {
            tell(what + " is " + got + ", due is " + due);
        }
    }

    /** The call throws just this exception, and changes nothing that digest() tells. */
    static void refused(String what, RackMoves room, Class<? extends RuntimeException> due, Call call) {
        long before = room.digest();
        Class<?> got = thrownBy(call);
        checks++;
        if (got != due) {
            tell(what + " threw " + got + ", due is " + due);
        }
        is("digest() behind " + what, room.digest(), before);
    }

    static Class<?> thrownBy(Call call) {
        try {
            call.run();
            return null;
        } catch (RuntimeException e) {
            return e.getClass();
        }
    }

    static void tell(String fault) {
        wrong++;
        System.out.println(test + fault);
    }

    static void end() {
        System.out.println(checks + " checks, " + wrong + " wrong");
        if (wrong != 0 || checks == 0) {
            System.exit(1);
        }
    }
}
