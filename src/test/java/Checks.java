/** Counts answers that are as due and tells those that are not. */
final class Checks {
    private final String name;
    private int passed;
    private int failed;
    private String part = "";

    Checks(String name) {
        this.name = name;
    }

    void begin(String part) {
        this.part = part;
    }

    void same(String what, long got, long due) {
        if (got == due) {
            passed++;
        } else {
            failed++;
            System.out.println(part + ": " + what + " answered " + got + ", due is " + due);
        }
    }

    void holds(String what, boolean good) {
        if (good) {
            passed++;
        } else {
            failed++;
            System.out.println(part + ": " + what);
        }
    }

    /** Tells the count and ends the program, with 1 if one answer was wrong. */
    void finish() {
        System.out.println(name + ": " + passed + " passed, " + failed + " failed");
        System.exit(failed == 0 && passed > 0 ? 0 : 1);
    }
}
