/** What every test of the project shares: it counts what is wrong, and ends with exit code 1 if anything was. */
final class Check {
    static final int NONE = -1;
    static final Class<? extends Exception> INDEX = IndexOutOfBoundsException.class;
    static final Class<? extends Exception> ARGUMENT = IllegalArgumentException.class;
    static final Class<? extends Exception> STATE = IllegalStateException.class;

    interface Call {
        double on(Clickbook book);
    }

    private int checked;
    private int wrong;

    void same(String what, long got, long want) {
        checked++;
        if (got != want) {
            fail(what + " answered " + got + ", due is " + want);
        }
    }

    void sameDouble(String what, double got, double want) {
        checked++;
        if (Double.compare(got, want) != 0) {
            fail(what + " answered " + got + ", due is " + want);
        }
    }

    void sameText(String what, String got, String want) {
        checked++;
        if (!got.equals(want)) {
            fail(what + " answered " + got + ", due is " + want);
        }
    }

    void isTrue(String what, boolean holds) {
        checked++;
        if (!holds) {
            fail(what + " does not hold");
        }
    }

    /** The call has to throw exactly that, and to leave everything that can be asked as it was. */
    void refused(String what, Class<? extends Exception> due, Clickbook book, Call call) {
        String before = stateOf(book);
        String got = "nothing";
        try {
            call.on(book);
        } catch (RuntimeException e) {
            got = e.getClass().getName();
            isTrue(what + " (thrown by the class itself, not by the machine)", isOwnThrow(e));
        }
        sameText(what + " (thrown)", got, due.getName());
        sameText(what + " (state behind it)", stateOf(book), before);
    }

    /** The library's own exceptions come from deeper down than the class; those of the machine have classes of theirs. */
    static boolean isOwnThrow(RuntimeException e) {
        StackTraceElement[] trace = e.getStackTrace();
        Class<?> thrown = e.getClass();
        boolean ofTheFace = thrown == INDEX || thrown == ARGUMENT || thrown == STATE;
        return ofTheFace && trace.length > 0 && trace[0].getClassName().startsWith("Clickbook");
    }

    /** The call has to answer that, and to leave everything that can be asked as it was. */
    void asked(String what, double due, Clickbook book, Call call) {
        String before = stateOf(book);
        sameDouble(what, call.on(book), due);
        sameText(what + " (state behind it)", stateOf(book), before);
    }

    private void fail(String text) {
        wrong++;
        System.out.println("WRONG: " + text);
    }

    void end(String test) {
        System.out.println(test + ": " + checked + " checked, " + wrong + " wrong");
        if (wrong > 0) {
            System.exit(1);
        }
    }

    /** In one call, so that no test makes more than 512 of one object; Run.java compares all that can be found out. */
    static String stateOf(Clickbook book) {
        return Long.toString(book.digest());
    }

    /** A CUE without THEME, of that START, with one BAR for each pair of METER and CLICK. */
    static int cue(Clickbook book, int start, int... metersAndClicks) {
        int cue = book.cue(start, NONE, 1, 0, 0);
        for (int i = 0; i + 1 < metersAndClicks.length; i += 2) {
            book.bar(cue, metersAndClicks[i], metersAndClicks[i + 1]);
        }
        return cue;
    }
}
