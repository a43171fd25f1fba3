/** The boundary cases of promises 21 to 23, a test for each sentence. */
public final class ImageEdgeTests {
    private static final Check check = new Check();
    private static final String WIDE = "c0 1 0 99 1 0;";

    public static void main(String[] args) {
        promise21Images();
        promise21NumberOfBundles();
        promise21InPlaceOfWhatItHad();
        promise21TwoImages();
        promise21IsNoAction();
        promise21LaterChangesLeaveIt();
        promise22Images();
        promise22StateIfNothingWasSaved();
        promise22BadComesBeforeState();
        promise22NumberOfBundles();
        promise22ImageStays();
        promise22NothingCanBeUndone();
        promise22RestoresWhatWasSavedAlone();
        promise22WhyABundleWaits();
        promise22NothingIsLeftOfLaterBundles();
        promise22BehindAPlan();
        promise23What();
        promise23LeastNumbers();
        promise23GreatestNumbers();
        promise23Standings();
        promise23ChangesNothing();
        check.close();
    }

    private static void promise21Images() {
        check.about("promise 21: 'BAD if there is no such image'");
        new Twins(check, Twins::busy).refuseOutside("keep", 0, 1, (x, v) -> x.keep(v));
        new Twins(check, ContactWays::new).refuseOutside("keep", 0, 1, (x, v) -> x.keep(v));
        check.due("keep(0)", new ContactWays().keep(0), 0);
        check.due("keep(1)", new ContactWays().keep(1), 0);
    }

    private static void promise21NumberOfBundles() {
        check.about("promise 21: 'the number of bundles'");
        ContactWays x = Check.planned(WIDE);
        for (int b = 0; b < 8; b++) {
            check.due("keep(0)", x.keep(0), b);
            x.sends(0, 1, 1, 2, 0);
        }
        check.due("keep(1)", x.keep(1), 8);
        x.drops(0);
        x.passes(50);
        check.due("dropped, through and late ones count", x.keep(0), 8);
        check.due("busy", Twins.busy().keep(1), 7);
    }

    private static void promise21InPlaceOfWhatItHad() {
        check.about("promise 21: 'in place of what it had'");
        ContactWays x = Twins.full();
        check.due("keep(0)", x.keep(0), 8);
        String told = Check.state(x).replaceFirst("undo \\d", "undo 0");
        check.due("back(1)", x.back(1), 0);
        check.due("keep(1)", x.keep(1), 0);
        check.due("back(0)", x.back(0), 8);
        check.due("state", Check.state(x), told);
        check.due("back(1)", x.back(1), 0);
        check.due("keep(0) of nothing", x.keep(0), 0);
        x.passes(3);
        check.due("back(0)", x.back(0), 0);
        check.due("count(3)", x.count(3), 0);
        check.due("contact(2, 6)", x.contact(2, 6), 0);
    }

    private static void promise21TwoImages() {
        check.about("promise 21: 'the image, 0 or 1'");
        ContactWays x = Check.planned(WIDE);
        x.passes(1);
        x.keep(0);
        x.passes(1);
        check.due("back(1)", x.back(1), Check.STATE);
        x.keep(1);
        x.passes(1);
        x.back(0);
        check.due("now", x.count(3), 1);
        x.back(1);
        check.due("now", x.count(3), 2);
        x.back(0);
        check.due("now", x.count(3), 1);
    }

    private static void promise21IsNoAction() {
        check.about("promise 21: keep() changes nothing but the image");
        ContactWays x = Twins.busy();
        String before = Check.state(x);
        x.keep(0);
        x.keep(1);
        check.due("state", Check.state(x), before);
        check.due("undo()", x.undo(), 7);
        check.due("undo() leaves the image", x.back(0), 7);
        check.due("state", Check.state(x), before.replaceFirst("undo \\d", "undo 0"));
        check.due("count(6)", x.count(6), 2);
        check.due("count(7)", x.count(7), Twins.BUSY_TEXT.length());
    }

    private static void promise21LaterChangesLeaveIt() {
        check.about("promise 21: what comes later does not change the image");
        String told = Check.state(Twins.full()).replaceFirst("undo \\d", "undo 0");
        ContactWays x = Twins.full();
        x.keep(0);
        x.drops(7);
        x.finds(2);
        x.misses(1);
        x.passes(40);
        x.undo();
        x.undo();
        check.due("back(0)", x.back(0), 8);
        check.due("state", Check.state(x), told);
        ContactWays y = Twins.full();
        y.keep(1);
        y.back(1);
        y.misses(1);
        y.passes(40);
        check.due("back(1)", y.back(1), 8);
        check.due("state behind two of them", Check.state(y), told);
    }

    private static void promise22Images() {
        check.about("promise 22: 'BAD if there is no such image'");
        new Twins(check, Twins::full).refuseOutside("back", 0, 1, (x, v) -> x.back(v));
        check.due("back(0)", Twins.full().back(0), 5);
        check.due("back(1)", Twins.full().back(1), 0);
    }

    private static void promise22StateIfNothingWasSaved() {
        check.about("promise 22: 'STATE if nothing was saved in it'");
        new Twins(check, () -> keptIn(0)).refuse("back(1)", Check.STATE, x -> x.back(1));
        new Twins(check, () -> keptIn(1)).refuse("back(0)", Check.STATE, x -> x.back(0));
        Twins never = new Twins(check, () -> keptIn(2));
        never.refuse("back(0)", Check.STATE, x -> x.back(0));
        never.refuse("back(1)", Check.STATE, x -> x.back(1));
    }

    /** An object with bundles, a missed contact, an observation, a text, and at most one image. */
    private static ContactWays keptIn(int image) {
        ContactWays x = Check.planned(Twins.BUSY_PLAN);
        x.sends(0, 2, 5, 99, 0);
        x.keep(image);
        x.sends(0, 1, 2, 1, 0);
        for (int b = 2; b < 7; b++) {
            x.sends(2, 3, b, 99, 1);
        }
        x.misses(2);
        x.passes(1);
        x.sees(0, 1, 121);
        Check.type(x, Twins.BUSY_TEXT);
        return x;
    }

    private static void promise22BadComesBeforeState() {
        check.about("promise 22: BAD comes before STATE");
        new Twins(check, ContactWays::new).refuseOutside("back", 0, 1, (x, v) -> x.back(v));
        new Twins(check, () -> keptIn(2)).refuseOutside("back", 0, 1, (x, v) -> x.back(v));
    }

    private static void promise22NumberOfBundles() {
        check.about("promise 22: 'the number of bundles'");
        for (int bundles = 0; bundles <= 8; bundles++) {
            ContactWays x = Check.planned(WIDE);
            for (int b = 0; b < bundles; b++) {
                x.sends(0, 1, 2, 99, b % 3);
            }
            x.keep(1);
            x.passes(99);
            check.due("back(1)", x.back(1), bundles);
            check.due("count(2)", x.count(2), bundles);
            check.due("count(3)", x.count(3), 0);
            check.due("another bundle", x.sends(1, 1, 1, 1, 1), bundles < 8 ? 0 : Check.FULL);
        }
    }

    private static void promise22ImageStays() {
        check.about("promise 22: 'an image, which stays'");
        ContactWays x = Twins.full();
        for (int k = 0; k < 5; k++) {
            check.due("back(0)", x.back(0), 5);
            check.due("count(2)", x.count(2), 5);
            check.due("sends", x.sends(0, 0, 1, 1, 1), 0);
            x.passes(7);
        }
    }

    private static void promise22NothingCanBeUndone() {
        check.about("promise 22: 'Nothing can be undone then'");
        ContactWays x = Twins.full();
        check.due("count(8)", x.count(8), 8);
        check.due("back(0)", x.back(0), 5);
        check.due("count(8)", x.count(8), 0);
        check.due("undo()", x.undo(), Check.STATE);
        check.due("count(2)", x.count(2), 5);
        x.passes(1);
        check.due("undo() of what came later", x.undo(), 0);
        check.due("undo()", x.undo(), Check.STATE);
        for (int k = 1; k <= 9; k++) {
            x.passes(1);
            check.due("count(8)", x.count(8), Math.min(k, 8));
        }
        check.due("an error leaves what can be undone", x.back(2), Check.BAD);
        check.due("count(8)", x.count(8), 8);
    }

    private static void promise22RestoresWhatWasSavedAlone() {
        check.about("promise 22: 'what was saved' are the bundles, now, and which contacts are missed");
        ContactWays x = Twins.full();
        x.back(1);
        check.due("count(2)", x.count(2), 0);
        check.due("count(3)", x.count(3), 0);
        check.due("contact(2, 6)", x.contact(2, 6), 0);
        check.due("the observations stay", x.count(6), 6);
        check.due("the text stays", x.count(7), 150);
        check.due("the other image stays", x.back(0), 5);
        check.due("plan()", x.plan(), 2);
    }

    private static void promise22WhyABundleWaits() {
        check.about("promise 22: why a bundle waits is restored");
        ContactWays x = Check.planned("c0 1 0 9 1 4;c0 1 30 40 1 0;");
        x.misses(0);
        x.misses(1);
        check.due("no way", x.sends(0, 1, 3, 20, 1), Check.NONE);
        x.keep(0);
        x.finds(1);
        check.due("too late", x.bundle(0, 8), 1);
        x.keep(1);
        check.due("back(0)", x.back(0), 1);
        check.due("bundle(0, 8)", x.bundle(0, 8), 0);
        check.due("back(1)", x.back(1), 1);
        check.due("bundle(0, 8)", x.bundle(0, 8), 1);
        x.finds(0);
        check.due("booked", x.bundle(0, 8), Check.NONE);
        check.due("back(0)", x.back(0), 1);
        check.due("bundle(0, 8)", x.bundle(0, 8), 0);
    }

    private static void promise22NothingIsLeftOfLaterBundles() {
        check.about("promise 22: what later bundles had goes with them");
        ContactWays x = Check.planned(WIDE);
        x.keep(0);
        x.sends(0, 1, 5, 99, 2);
        x.sends(0, 1, 5, 99, 2);
        x.drops(1);
        check.due("back(0)", x.back(0), 0);
        check.due("tick(0, 0)", x.tick(0, 0), Check.NONE);
        check.due("sends", x.sends(1, 0, 5, 99, 0), Check.NONE);
        check.due("hops", x.bundle(0, 3), 0);
        check.due("sends", x.sends(0, 1, 5, 99, 0), 5);
        check.due("not dropped", x.bundle(1, 0), 1);
    }

    private static void promise22BehindAPlan() {
        check.about("promise 22: plan() discards the images, and one with a fault does not");
        ContactWays x = Twins.busy();
        Check.type(x, "c");
        check.due("plan()", x.plan() < -9 ? 1 : 0, 1);
        check.due("back(0)", x.back(0), 5);
        x.clear();
        check.due("plan()", x.plan(), 0);
        check.due("back(0)", x.back(0), Check.STATE);
        check.due("back(1)", x.back(1), Check.STATE);
        check.due("keep(1)", x.keep(1), 0);
        check.due("back(0)", x.back(0), Check.STATE);
        check.due("back(1)", x.back(1), 0);
    }

    private static void promise23What() {
        check.about("promise 23: 'BAD if what is not 0 to 8'");
        new Twins(check, Twins::full).refuseOutside("count", 0, 8, (x, v) -> x.count(v));
        new Twins(check, ContactWays::new).refuseOutside("count", 0, 8, (x, v) -> x.count(v));
    }

    private static void counts(String name, ContactWays x, int... due) {
        for (int what = 0; what <= 8; what++) {
            check.due(name + ", count(" + what + ")", x.count(what), due[what]);
        }
    }

    private static void promise23LeastNumbers() {
        check.about("promise 23: the least numbers");
        counts("a new object", new ContactWays(), 2, 0, 0, 0, 0, 0, 0, 0, 0);
    }

    private static void promise23GreatestNumbers() {
        check.about("promise 23: the greatest numbers");
        ContactWays x = Check.planned("n6;" + WIDE.repeat(8));
        for (int b = 0; b < 8; b++) {
            x.sends(0, 1, 1, 99, 0);
        }
        counts("eight are booked", x, 6, 8, 8, 0, 0, 8, 0, 0, 8);
        for (int k = 0; k < 6; k++) {
            x.sees(0, 1, 0);
        }
        Check.type(x, " ".repeat(150));
        x.passes(99);
        counts("eight are through", x, 6, 8, 8, 99, 0, 0, 6, 150, 8);
        ContactWays y = Check.planned("n6;" + WIDE.repeat(8));
        for (int b = 0; b < 8; b++) {
            y.sends(1, 0, 1, 99, 0);
        }
        y.passes(99);
        counts("eight wait", y, 6, 8, 8, 99, 8, 0, 0, 0, 8);
    }

    private static void promise23Standings() {
        check.about("promise 23: '4 for the number of bundles that wait, 5 for those that are booked'");
        counts("busy", Twins.busy(), 4, 4, 7, 5, 1, 3, 2, 16, 8);
        counts("full", Twins.full(), 4, 4, 8, 5, 1, 4, 6, 150, 8);
        ContactWays x = Check.planned("c0 1 0 9 1 3;");
        x.sends(0, 1, 1, 4, 0);
        x.sends(1, 0, 1, 4, 0);
        int[] waiting = {1, 1, 1, 1, 1, 0};
        int[] booked = {1, 1, 1, 1, 0, 0};
        for (int now = 0; now < waiting.length; now++) {
            check.due("count(4) in tick " + now, x.count(4), waiting[now]);
            check.due("count(5) in tick " + now, x.count(5), booked[now]);
            x.passes(1);
        }
    }

    private static void promise23ChangesNothing() {
        check.about("promise 23: 'Questions change nothing'");
        Twins busy = new Twins(check, Twins::busy);
        for (int what = 0; what <= 8; what++) {
            int asked = what;
            busy.changesNothing("count(" + what + ")", x -> x.count(asked));
        }
    }
}
