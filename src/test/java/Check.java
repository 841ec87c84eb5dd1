/** Counts the answers that are not as due, and ends with exit code 1 if there was one. */
final class Check {
    /** One call of the face; a boolean, number or text is its answer. */
    interface Call {
        Object run();
    }

    private int wrong = 0;

    /** The answer as text; of an exception the plain name of its very class, and whether the library threw it. */
    static String answerOf(Call call) {
        try {
            return String.valueOf(call.run());
        } catch (RuntimeException e) {
            StackTraceElement[] trace = e.getStackTrace();
            boolean isOurs = trace.length > 0 && !trace[0].getClassName().contains(".");
            return "throws " + e.getClass().getSimpleName() + (isOurs ? "" : " from the library");
        }
    }

    void due(String label, Object want, Call call) {
        String got = answerOf(call);
        if (!got.equals(String.valueOf(want))) {
            wrong++;
            System.out.println(label + " answered " + got + ", due is " + want);
        }
    }

    /** The exception is due, and that nothing has changed behind it. */
    void refused(String label, Twelvehundred x, Class<? extends RuntimeException> want, Call call) {
        String before = viewOf(x);
        due(label, "throws " + want.getSimpleName(), call);
        due(label + " changes nothing", before, () -> viewOf(x));
    }

    void argument(String label, Twelvehundred x, Call call) {
        refused(label, x, IllegalArgumentException.class, call);
    }

    void state(String label, Twelvehundred x, Call call) {
        refused(label, x, IllegalStateException.class, call);
    }

    void index(String label, Twelvehundred x, Call call) {
        refused(label, x, IndexOutOfBoundsException.class, call);
    }

    /** All that can be asked without changing anything. */
    static String viewOf(Twelvehundred x) {
        StringBuilder view = new StringBuilder();
        for (int what = 0; what < 19; what++) {
            view.append(x.county(what)).append(' ');
        }
        rows(view, x.county(0), 5, x::ofStreet);
        rows(view, x.county(1), 4, x::ofHall);
        rows(view, x.county(2), 6, x::ofHousehold);
        for (int lot = 0; lot < 10; lot++) {
            int asked = lot;
            view.append(answerOf(() -> x.ofLot(asked, 0))).append(' ');
            view.append(answerOf(() -> x.ofLot(asked, 1))).append(' ');
        }
        for (int set = 0; set < 1 << x.county(2); set++) {
            view.append(x.can(set) ? '1' : '0');
        }
        for (int hours = 0; hours < 100; hours += 9) {
            view.append(' ').append(x.would(99, hours));
        }
        return view.append(' ').append(x.signs()).append(' ').append(x.chosen()).append(' ')
            .append(x.isSound()).append(' ').append(x.digest()).toString();
    }

    private interface Asked {
        int of(int number, int what);
    }

    private static void rows(StringBuilder view, int count, int whats, Asked asked) {
        for (int i = 0; i < count; i++) {
            for (int what = 0; what < whats; what++) {
                view.append(asked.of(i, what)).append(' ');
            }
        }
    }

    void end(String name) {
        System.out.println(name + ": " + (wrong == 0 ? "all answers are as due" : wrong + " answers are not as due"));
        if (wrong != 0) {
            System.exit(1);
        }
    }
}
