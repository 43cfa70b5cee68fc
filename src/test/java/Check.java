import java.util.concurrent.Callable;

/** Compares answers with what is due, prints those that differ, and ends the test. */
final class Check {
    private int checks = 0;
    private int wrong = 0;

    interface Act {
        void run() throws Exception;
    }

    void due(String what, long got, long want) {
        checks++;
        if (got != want) {
            wrong++;
            System.out.println(what + " answered " + got + ", due is " + want);
        }
    }

    void due(String what, Object got, Object want) {
        checks++;
        if (!want.equals(got)) {
            wrong++;
            System.out.println(what + " answered " + got + ", due is " + want);
        }
    }

    void throwsDue(String what, Class<? extends Exception> want, Act act) {
        due(what, answerOf(() -> {
            act.run();
            return "nothing thrown";
        }), want.getName());
    }

    /** What a call answers, or the name of the exception that it throws. */
    static String answerOf(Callable<?> call) {
        try {
            return String.valueOf(call.call());
        } catch (Exception e) {
            return e.getClass().getName();
        }
    }

    void end() {
        System.out.println(checks + " checks, " + wrong + " wrong");
        if (wrong != 0) {
            System.exit(1);
        }
    }
}
