/** Counts the answers that are as due, and prints the others. */
final class Check {
    private int passed = 0;
    private int failed = 0;
    private String subject = "";

    /** Names what the next answers belong to. */
    void about(String newSubject) {
        subject = newSubject;
    }

    void is(String call, long answer, long due) {
        if (answer == due) {
            passed++;
        } else {
            failed++;
            System.out.println(subject + ": " + call + " answered " + answer + ", due is " + due);
        }
    }

    void text(String call, String answer, String due) {
        if (answer.equals(due)) {
            passed++;
        } else {
            failed++;
            System.out.println(subject + ": " + call + " told \"" + answer + "\", due is \"" + due + "\"");
        }
    }

    void holds(String statement, boolean truth) {
        is(statement, truth ? 1 : 0, 1);
    }

    /** The number of the answers that were compared so far. */
    int compared() {
        return passed + failed;
    }

    boolean allPassed() {
        return failed == 0;
    }

    String summary() {
        return passed + " passed, " + failed + " failed";
    }
}
