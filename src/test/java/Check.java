/** Counts the answers that are not as due, and ends with exit code 1 if there was one. */
final class Check {
    /** One call of the face; a boolean, number or text is its answer. */
    interface Call {
        Object run();
    }

    private int wrong = 0;

    /** The answer as text; of an exception the plain name of its very class, and whether the library threw it. */
    static String answerOf(Call call) {
        try {
            return String.valueOf(call.run());
        } catch (RuntimeException e) {
            StackTraceElement[] trace = e.getStackTrace();
            boolean isOurs = trace.length > 0 && !trace[0].getClassName().contains(".");
            return "throws " + e.getClass().getSimpleName() + (isOurs ? "" : " from the library");
        }
    }

    void due(String label, Object want, Call call) {
        String got = answerOf(call);
        if (!got.equals(String.valueOf(want))) {
            wrong++;
            System.out.println(label + " answered " + got + ", due is " + want);
        }
    }

    /** The exception is due, and that nothing has changed behind it. */
    void refused(String label, Twelvehundred x, Class<? extends RuntimeException> want, Call call) {
        String before = viewOf(x);
        due(label, "throws " + want.getSimpleName(), call);
        due(label + " changes nothing", before, () -> viewOf(x));
    }

    void argument(String label, Twelvehundred x, Call call) {
        refused(label, x, IllegalArgumentException.class, call);
    }

    void state(String label, Twelvehundred x, Call call) {
        refused(label, x, IllegalStateException.class, call);
    }

    void index(String label, Twelvehundred x, Call call) {
        refused(label, x, IndexOutOfBoundsException.class, call);
    }

    /** The checksum holds all that can be asked of the county; and two calls leave an object most of its 512. */
    static String viewOf(Twelvehundred x) {
        return x.digest() + " " + x.signs();
    }

    void end(String name) {
        System.out.println(name + ": " + (wrong == 0 ? "all answers are as due" : wrong + " answers are not as due"));
        if (wrong != 0) {
            System.exit(1);
        }
    }
}
