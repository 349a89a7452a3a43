/** Counts and prints the answers that are not as due, each with the sentence it breaks, and ends a test. */
final class Check {
    private String sentence = "the document";
    private int wrong;

    /** What is wrong from here on breaks this sentence of the document. */
    void about(String told) {
        sentence = told;
    }

    void equal(String what, long got, long due) {
        if (got != due) {
            tell(what + " answered " + got + ", due is " + due);
        }
    }

    void equal(String what, boolean got, boolean due) {
        if (got != due) {
            tell(what + " answered " + got + ", due is " + due);
        }
    }

    void equal(String what, String got, String due) {
        if (!got.equals(due)) {
            tell(what + " is \"" + visible(got) + "\", due is \"" + visible(due) + "\"");
        }
    }

    boolean allRight() {
        return wrong == 0;
    }

    void end() {
        if (wrong > 0) {
            System.out.println(wrong + " wrong");
            System.exit(1);
        }
    }

    private void tell(String message) {
        wrong++;
        System.out.println("[" + sentence + "] " + visible(message));
    }

    private static String visible(String text) {
        return text.replace("\n", "\\n");
    }
}
