/** Counts the answers that are not as due, and ends a test with exit code 1 if there was one. */
final class Check {
    private int checked;
    private int wrong;
    private String part = "";

    void part(String name) {
        part = name;
    }

    void due(long want, long got, String call) {
        checked++;
        if (got != want) {
            wrong++;
            System.out.println(part + ": " + call + " answered " + got + ", due is " + want);
        }
    }

    void dueTrue(boolean holds, String claim) {
        checked++;
        if (!holds) {
            wrong++;
            System.out.println(part + ": " + claim + " does not hold");
        }
    }

    void end() {
        System.out.println(checked + " checked, " + wrong + " wrong");
        if (wrong != 0 || checked == 0) {
            System.exit(1);
        }
    }
}
