/** Compares answers with those that are due, and ends the program with 1 if one was wrong. */
final class Expect {
    private int wrong;

    void due(String call, long got, long want) {
        if (got != want) {
            tell(call + " answered " + got + ", due is " + want);
        }
    }

    void yes(String what, boolean got) {
        if (!got) {
            tell("not so: " + what);
        }
    }

    void refused(String call, Class<? extends RuntimeException> kind, Runnable body) {
        Class<?> got = null;
        try {
            body.run();
        } catch (RuntimeException e) {
            got = e.getClass();
        }
        if (got != kind) {
            tell(call + " threw " + got + ", due is " + kind);
        }
    }

    void tell(String fault) {
        wrong++;
        System.out.println(fault);
    }

    void end() {
        if (wrong > 0) {
            System.exit(1);
        }
    }
}
