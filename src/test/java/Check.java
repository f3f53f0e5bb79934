/** Counts what is as due and tells what is not. */
final class Check {
    private final String name;
    private int asked;
    private int wrong;

    Check(String name) {
        this.name = name;
    }

    void is(String call, long got, long due) {
        asked++;
        if (got == due) return;
        wrong++;
        System.out.println(name + ": " + call + " answered " + got + ", due is " + due);
    }

    void so(String what, boolean holds) {
        is(what, holds ? 1 : 0, 1);
    }

    /** Ends the program with 1 if anything was not as due. */
    void end() {
        System.out.println(name + ": " + asked + " asked, " + wrong + " wrong");
        if (wrong != 0 || asked == 0) System.exit(1);
    }
}
