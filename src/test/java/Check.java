/** Counts answers that are not as due, and has the helpers that the tests share. */
final class Check {
    static final int BAD = -1, STATE = -2, FULL = -3, NONE = -9;

    private int right = 0;
    private int wrong = 0;
    private String about = "";

    /** Names what the next answers are about. */
    void about(String what) {
        about = what;
    }

    void due(String call, long got, long want) {
        due(call, String.valueOf(got), String.valueOf(want));
    }

    void due(String call, String got, String want) {
        if (got.equals(want)) {
            right++;
        } else {
            wrong++;
            System.out.println(about + ": " + call + " answered " + got + ", due is " + want);
        }
    }

    /** Ends the test's program, with exit code 1 if an answer was not as due. */
    void close() {
        System.out.println(right + " answers are as due, " + wrong + " are not");
        if (wrong != 0) {
            System.exit(1);
        }
    }

    static void type(ContactWays x, String text) {
        for (int i = 0; i < text.length(); i++) {
            x.type(text.charAt(i));
        }
    }

    /** A new object with a plan. */
    static ContactWays planned(String text) {
        ContactWays x = new ContactWays();
        type(x, text);
        if (x.plan() < 0) {
            throw new IllegalArgumentException("a test's plan has a fault: " + text);
        }
        return x;
    }

    /** The hops of a bundle, each as contact@tick. */
    static String hops(ContactWays x, int b) {
        StringBuilder told = new StringBuilder();
        for (int k = 0; x.hop(b, k, 0) >= 0; k++) {
            told.append(k == 0 ? "" : " ").append(x.hop(b, k, 0)).append('@').append(x.hop(b, k, 1));
        }
        return told.toString();
    }

    /** Everything that actions change, and how much can be undone. */
    static String state(ContactWays x) {
        StringBuilder told = new StringBuilder("now " + x.count(3) + ", undo " + x.count(8));
        for (int c = 0; c < x.count(1); c++) {
            told.append(x.contact(c, 6) == 1 ? " missed " + c : "");
        }
        for (int b = 0; b < x.count(2); b++) {
            told.append("; ").append(b).append(':');
            for (int what = 0; what <= 8; what++) {
                told.append(' ').append(x.bundle(b, what));
            }
            told.append(" [").append(hops(x, b)).append(']');
        }
        return told.toString();
    }
}
