/** Counts answers that are not as due, and ends the program with exit code 1 if there was one. */
final class Check {
    private final String name;
    private String about = "";
    private int right = 0;
    private int wrong = 0;

    Check(String name) {
        this.name = name;
    }

    void promise(int number, String what) {
        about = "promise " + number + " (" + what + ")";
    }

    void due(String call, long got, long want) {
        if (got == want) {
            right++;
        } else {
            wrong++;
            System.out.println(name + ", " + about + ": " + call + " answered " + got + ", due is " + want);
        }
    }

    void holds(String what, boolean is) {
        due(what, is ? 1 : 0, 1);
    }

    /** No difference may be told. */
    void alike(String call, String difference) {
        if (difference.isEmpty()) {
            right++;
        } else {
            wrong++;
            System.out.println(name + ", " + about + ": " + call + ": " + difference);
        }
    }

    void end() {
        System.out.println(name + ": " + right + " answers as due, " + wrong + " not");
        if (wrong != 0 || right == 0) {
            System.exit(1);
        }
    }
}
