/** Compares answers with those that are due, prints the wrong ones and tells at the end whether there was one. */
final class Check {
    interface Call {
        Object run();
    }

    private final String test;
    private int made = 0;
    private int wrong = 0;

    Check(String test) {
        this.test = test;
    }

    void same(String call, Object got, Object due) {
        made++;
        if (!due.equals(got)) {
            wrong++;
            System.out.println(test + ": " + call + " answered " + got + ", due is " + due);
        }
    }

    void fine(String call, char got) {
        same(call, got, '-');
    }

    void yes(String call, boolean got) {
        same(call, got, true);
    }

    void no(String call, boolean got) {
        same(call, got, false);
    }

    /** The call must throw just this class. */
    void throwsA(Class<?> due, String call, Call made) {
        same(call, answer(made), "throws " + due.getSimpleName());
    }

    static Object answer(Call made) {
        try {
            return made.run();
        } catch (RuntimeException e) {
            return "throws " + e.getClass().getSimpleName();
        }
    }

    int madeOnes() {
        return made;
    }

    int wrongOnes() {
        return wrong;
    }

    void end() {
        System.out.println(test + ": " + made + " answers, " + wrong + " wrong");
        if (wrong != 0) {
            System.exit(1);
        }
    }
}
