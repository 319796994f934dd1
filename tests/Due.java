/** Counts the answers of one test that are not the ones that are due. */
final class Due {
    private static final int SHOWN = 20;

    private final String test;
    private int asked, wrong;

    Due(String test) {
        this.test = test;
    }

    void is(String call, long got, long due) {
        asked++;
        if (got == due) return;
        wrong++;
        if (wrong <= SHOWN) System.out.println(test + ": " + call + " answered " + got + ", due is " + due);
    }

    void holds(String what, boolean truth) {
        is(what, truth ? 1 : 0, 1);
    }

    boolean anyWrong() {
        return wrong > 0;
    }

    void finish() {
        System.out.println(test + ": " + asked + " answers, " + wrong + " wrong");
        if (wrong > 0) System.exit(1);
    }
}
