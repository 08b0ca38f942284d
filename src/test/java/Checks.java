/** Counts what holds and prints what does not. */
final class Checks {
    interface Call {
        Object run();
    }

    private int held;
    private int broken;

    /** What a call comes to: its answer, or the name of what it throws. */
    static String outcome(Call call) {
        try {
            return String.valueOf(call.run());
        } catch (RuntimeException thrown) {
            String name = "throws " + thrown.getClass().getSimpleName();
            return isOfMachine(thrown) ? name + " by itself: " + thrown.getMessage() : name;
        }
    }

    /** What the program throws has no text; what the machine or a list throws in it has one. */
    private static boolean isOfMachine(RuntimeException thrown) {
        if (thrown.getMessage() == null) {
            return false;
        }
        for (StackTraceElement element : thrown.getStackTrace()) {
            if (element.getClassName().startsWith("GranaryPartition")) {
                return true;
            }
        }
        return false;
    }

    void due(String what, Object due, Call call) {
        String got = outcome(call);
        if (got.equals(String.valueOf(due))) {
            held++;
        } else {
            broken++;
            System.out.println(what + ": due is " + due + ", but it is " + got);
        }
    }

    void index(String what, Call call) {
        due(what, "throws IndexOutOfBoundsException", call);
    }

    void argument(String what, Call call) {
        due(what, "throws IllegalArgumentException", call);
    }

    void state(String what, Call call) {
        due(what, "throws IllegalStateException", call);
    }

    void element(String what, Call call) {
        due(what, "throws NoSuchElementException", call);
    }

    void unsupported(String what, Call call) {
        due(what, "throws UnsupportedOperationException", call);
    }

    void arithmetic(String what, Call call) {
        due(what, "throws ArithmeticException", call);
    }

    boolean allHold() {
        return broken == 0 && held > 0;
    }

    /** Ends the program, with the exit code 1 if something is broken or nothing was looked at. */
    void end(String name) {
        System.out.println(name + ": " + held + " checks hold, " + broken + " do not");
        System.exit(allHold() ? 0 : 1);
    }
}
