/** Promises 21 to 23: keep, back, count. */
public final class ImageTests {
    private static final Check check = new Check();

    public static void main(String[] args) {
        errors();
        keepAndBack();
        whatStays();
        count();
        check.close();
    }

    private static void errors() {
        check.about("promises 21 and 22, errors");
        ContactWays x = Check.planned("c0 1 0 9 1 0;");
        check.due("keep(-1)", x.keep(-1), Check.BAD);
        check.due("keep(2)", x.keep(2), Check.BAD);
        check.due("back(-1)", x.back(-1), Check.BAD);
        check.due("back(2)", x.back(2), Check.BAD);
        check.due("back(32)", x.back(32), Check.BAD);
        check.due("back(0)", x.back(0), Check.STATE);
        check.due("keep(1)", x.keep(1), 0);
        check.due("back(0)", x.back(0), Check.STATE);
        check.due("back(1)", x.back(1), 0);
        x.passes(1);
        check.due("back(0)", x.back(0), Check.STATE);
        check.due("an error leaves undo", x.count(8), 1);
    }

    /** The state without how much can be undone. */
    private static String saved(ContactWays x) {
        return Check.state(x).replaceFirst("undo \\d+", "");
    }

    private static void keepAndBack() {
        check.about("promises 21 and 22");
        ContactWays x = Check.planned("n3;c0 1 0 9 1 4;c1 2 0 30 1 0;c1 2 40 50 1 0;");
        x.sends(0, 2, 2, 99, 1);
        x.sends(1, 2, 4, 99, 2);
        x.passes(2);
        x.misses(1);
        x.drops(1);
        check.due("too late", x.sends(1, 2, 4, 9, 2), Check.NONE);
        check.due("why", x.bundle(2, 8), 1);
        String first = saved(x);
        check.due("keep(0)", x.keep(0), 3);
        check.due("keep is no action", x.count(8), 6);
        x.sends(0, 1, 3, 99, 0);
        x.finds(1);
        x.passes(10);
        String second = saved(x);
        check.due("keep(1)", x.keep(1), 4);
        check.due("back(0)", x.back(0), 3);
        check.due("state", saved(x), first);
        check.due("count(8)", x.count(8), 0);
        check.due("undo()", x.undo(), Check.STATE);
        check.due("back(1)", x.back(1), 4);
        check.due("state", saved(x), second);
        x.passes(50);
        check.due("an image stays", x.back(1), 4);
        check.due("state", saved(x), second);
        check.due("back(0)", x.back(0), 3);
        check.due("state", saved(x), first);
        check.due("keep(1) in its place", x.keep(1), 3);
        x.passes(1);
        x.sends(0, 1, 3, 99, 0);
        check.due("back(1)", x.back(1), 3);
        check.due("state", saved(x), first);
    }

    private static void whatStays() {
        check.about("promises 21 and 22, what stays");
        ContactWays x = Check.planned("c0 1 0 9 1 4;");
        x.sees(0, 1, 5);
        Check.type(x, "ab");
        x.keep(0);
        x.sends(0, 1, 2, 99, 1);
        x.undo();
        x.passes(5);
        x.keep(1);
        x.undo();
        check.due("undo leaves the images", x.back(1), 0);
        check.due("now", x.count(3), 5);
        x.sees(0, 1, 6);
        x.clear();
        check.due("back(0)", x.back(0), 0);
        check.due("now", x.count(3), 0);
        check.due("the observations stay", x.count(6), 2);
        check.due("the text stays", x.count(7), 0);
        x.plan();
        check.due("back(0) after plan()", x.back(0), Check.STATE);
        check.due("back(1) after plan()", x.back(1), Check.STATE);
    }

    private static void count() {
        check.about("promise 23");
        ContactWays x = Check.planned("n5;c0 1 0 9 1 4;c1 2 0 30 1 0;c1 2 40 50 1 0;");
        x.sends(0, 2, 2, 99, 1);
        x.sends(0, 1, 2, 99, 1);
        x.sends(3, 4, 1, 9, 0);
        x.sends(4, 3, 1, 1, 0);
        x.sends(4, 3, 1, 90, 0);
        x.sends(2, 2, 1, 90, 0);
        x.passes(2);
        x.sees(0, 1, 6);
        Check.type(x, "n2;c");
        int[] due = {5, 3, 6, 2, 2, 2, 1, 4, 7};
        for (int what = 0; what <= 8; what++) {
            check.due("count(" + what + ")", x.count(what), due[what]);
        }
        check.due("count(-1)", x.count(-1), Check.BAD);
        check.due("count(9)", x.count(9), Check.BAD);
        check.due("count(max)", x.count(Integer.MAX_VALUE), Check.BAD);
    }
}
