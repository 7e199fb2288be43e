/** Counts and prints the calls whose answer is not the one that is due. */
final class Checks {
    private int passed;
    private int failed;
    private int asked;
    private String group = "";

    /** Begins a group: what the checks that follow are of. One without a check is a failure. */
    void group(String name) {
        endGroup();
        group = name;
    }

    void due(String call, long got, long want) {
        count(got == want, call + " answered " + got + ", due is " + want);
    }

    void holds(String what, boolean is) {
        count(is, what + " does not hold");
    }

    private void count(boolean right, String told) {
        asked++;
        if (right) {
            passed++;
        } else {
            failed++;
            System.out.println(group + ": " + told);
        }
    }

    private void endGroup() {
        if (asked == 0 && !group.isEmpty()) {
            failed++;
            System.out.println(group + ": nothing was checked");
        }
        asked = 0;
    }

    void end() {
        endGroup();
        System.out.println(passed + " passed, " + failed + " failed");
        if (failed != 0 || passed == 0) {
            System.exit(1);
        }
    }
}
