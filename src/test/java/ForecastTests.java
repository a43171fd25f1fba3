/** Promises 15 to 20: asks, largest, worst, sees, forget, unseen. */
public final class ForecastTests {
    private static final Check check = new Check();

    public static void main(String[] args) {
        asks();
        largest();
        worst();
        sees();
        unseen();
        unseenKeepsBookings();
        check.close();
    }

    private static void asks() {
        check.about("promise 15");
        ContactWays x = Check.planned("c0 1 2 40 1 0;c1 0 98 99 9 9;");
        check.due("node -1", x.asks(-1, 1, 1, 0), Check.BAD);
        check.due("node 2", x.asks(2, 1, 1, 0), Check.BAD);
        check.due("goal -1", x.asks(0, -1, 1, 0), Check.BAD);
        check.due("goal 2", x.asks(0, 2, 1, 0), Check.BAD);
        check.due("size 0", x.asks(0, 1, 0, 0), Check.BAD);
        check.due("size 21", x.asks(0, 1, 21, 0), Check.BAD);
        check.due("priority -1", x.asks(0, 1, 1, -1), Check.BAD);
        check.due("priority 3", x.asks(0, 1, 1, 3), Check.BAD);
        check.due("size 21, the same node", x.asks(1, 1, 21, 0), Check.BAD);
        check.due("the same node", x.asks(1, 1, 20, 0), 0);
        check.due("the latest tick of all", x.asks(1, 0, 9, 0), 108);
        check.due("too great", x.asks(1, 0, 10, 0), Check.NONE);
        check.due("sends", x.sends(0, 1, 5, 50, 1), 7);
        String before = Check.state(x);
        check.due("lower", x.asks(0, 1, 5, 0), 12);
        check.due("the same", x.asks(0, 1, 5, 1), 12);
        check.due("higher", x.asks(0, 1, 5, 2), 7);
        check.due("state", Check.state(x), before);
        x.passes(3);
        check.due("the same node later", x.asks(1, 1, 20, 0), 3);
        check.due("nobody's hop on its way is taken", x.asks(0, 1, 5, 2), 12);
        for (int b = 1; b < 8; b++) {
            x.sends(1, 1, 1, 50, 0);
        }
        check.due("with 8 bundles", x.asks(0, 1, 1, 0), 8);
    }

    private static void largest() {
        check.about("promise 16");
        ContactWays x = Check.planned("c0 1 2 40 2 3;c1 0 98 99 9 9;");
        check.due("node -1", x.largest(-1, 1, 0, 9), Check.BAD);
        check.due("node 2", x.largest(2, 1, 0, 9), Check.BAD);
        check.due("goal -1", x.largest(0, -1, 0, 9), Check.BAD);
        check.due("goal 2", x.largest(0, 2, 0, 9), Check.BAD);
        check.due("priority -1", x.largest(0, 1, -1, 9), Check.BAD);
        check.due("priority 3", x.largest(0, 1, 3, 9), Check.BAD);
        check.due("by -1", x.largest(0, 1, 0, -1), Check.BAD);
        check.due("by 121", x.largest(0, 1, 0, 121), Check.BAD);
        check.due("by 5", x.largest(0, 1, 0, 5), Check.NONE);
        check.due("by 6", x.largest(0, 1, 0, 6), 2);
        check.due("by 7", x.largest(0, 1, 0, 7), 4);
        check.due("by 14", x.largest(0, 1, 0, 14), 18);
        check.due("by 15", x.largest(0, 1, 0, 15), 20);
        check.due("by 120", x.largest(0, 1, 0, 120), 20);
        check.due("one by 108", Check.planned("c0 1 98 99 1 9;").largest(0, 1, 2, 108), 1);
        check.due("by 107", x.largest(1, 0, 0, 107), Check.NONE);
        check.due("by 108", x.largest(1, 0, 0, 108), 9);
        check.due("the same node", x.largest(1, 1, 0, 0), 20);
        x.sends(0, 1, 6, 50, 1);
        String before = Check.state(x);
        check.due("lower, by 9", x.largest(0, 1, 0, 9), 2);
        check.due("the same, by 9", x.largest(0, 1, 1, 9), 2);
        check.due("higher, by 9", x.largest(0, 1, 2, 9), 8);
        check.due("state", Check.state(x), before);
        x.passes(5);
        check.due("the same node, too early", x.largest(1, 1, 0, 4), Check.NONE);
        check.due("the same node, in time", x.largest(1, 1, 0, 5), 20);
    }

    private static void worst() {
        check.about("promise 17");
        ContactWays x = Check.planned("n3;c0 1 0 9 1 0;c0 1 0 9 1 0;c1 2 0 9 1 0;c1 0 0 30 1 0;");
        check.due("without bundles", x.worst(), 0);
        x.misses(0);
        check.due("without bundles, 0 missed", x.worst(), 1);
        x.undo();
        x.sends(0, 1, 3, 99, 0);
        check.due("another contact takes its place", x.worst(), 0);
        x.sends(1, 2, 3, 99, 0);
        check.due("nothing takes the place of 2", x.worst(), 2);
        x.sends(1, 0, 3, 99, 0);
        check.due("the least of several", x.worst(), 2);
        x.sends(1, 0, 3, 99, 0);
        check.due("two bundles wait without 3", x.worst(), 3);
        String before = Check.state(x);
        x.worst();
        check.due("state", Check.state(x), before);
        x.misses(3);
        check.due("those wait whatever is missed", x.worst(), 2);
        x.misses(2);
        check.due("0 and 1 are alike", x.worst(), 0);
        x.misses(0);
        check.due("1 is left", x.worst(), 1);
        x.misses(1);
        check.due("none is left", x.worst(), Check.NONE);
        // a contact without hops of its own, or whose loss pushes out others, counts as misses() does
        ContactWays y = Check.planned("n3;c0 1 0 3 1 0;c0 1 0 3 1 0;c1 2 0 9 1 0;");
        y.sends(0, 1, 3, 99, 2);
        y.sends(0, 1, 3, 99, 0);
        y.sends(1, 2, 3, 99, 0);
        check.due("all wait for one", y.worst(), 0);
        y.passes(1);
        check.due("also hops on their way", y.worst(), 0);
        y.passes(2);
        check.due("hops that are over do not count", y.worst(), 0);
        check.due("they are through", y.count(5), 0);
    }

    private static void sees() {
        check.about("promises 18 and 19");
        ContactWays x = Check.planned("n3;c0 1 0 9 1 0;");
        check.due("node -1", x.sees(-1, 1, 0), Check.BAD);
        check.due("node 3", x.sees(3, 1, 0), Check.BAD);
        check.due("goal -1", x.sees(0, -1, 0), Check.BAD);
        check.due("goal 3", x.sees(0, 3, 0), Check.BAD);
        check.due("the same node", x.sees(1, 1, 0), Check.BAD);
        check.due("a -1", x.sees(0, 1, -1), Check.BAD);
        check.due("a 122", x.sees(0, 1, 122), Check.BAD);
        check.due("forget()", x.forget(), 0);
        check.due("a 0", x.sees(0, 1, 0), 1);
        check.due("a 120", x.sees(1, 2, 120), 2);
        check.due("a 121", x.sees(2, 0, 121), 3);
        check.due("again", x.sees(2, 0, 121), 4);
        check.due("count(6)", x.count(6), 4);
        check.due("count(8)", x.count(8), 0);
        x.sees(0, 1, 1);
        check.due("a sixth one", x.sees(0, 1, 1), 6);
        check.due("a seventh one", x.sees(0, 1, 1), Check.FULL);
        check.due("a seventh one that is bad", x.sees(0, 0, 1), Check.BAD);
        check.due("count(6)", x.count(6), 6);
        check.due("forget()", x.forget(), 6);
        check.due("forget() again", x.forget(), 0);
        check.due("count(6)", x.count(6), 0);
        check.due("sees()", x.sees(0, 1, 1), 1);
    }

    private static void unseen() {
        check.about("promise 20");
        ContactWays x = Check.planned("n4;c0 1 0 9 9 1;c0 2 0 9 9 1;c1 3 1 9 9 1;c2 3 3 9 9 1;");
        check.due("without observations", x.unseen(), 15);
        x.misses(1);
        check.due("1 is missed", x.unseen(), 13);
        x.undo();
        x.sees(0, 3, 5);
        check.due("the way by 1 and 3", x.unseen(), 1 | 4);
        x.sees(0, 1, 121);
        check.due("none to 1", x.unseen(), 1);
        x.sees(0, 2, 121);
        check.due("nothing explains both", x.unseen(), 0);
        check.due("forget()", x.forget(), 3);
        check.due("without observations", x.unseen(), 15);
        x.sees(0, 3, 4);
        check.due("the way by 0 and 2", x.unseen(), 2 | 8);
        x.passes(1);
        check.due("is later now", x.unseen(), 0);
        x.forget();
        x.sees(0, 3, 121);
        check.due("one contact alone is not enough", x.unseen(), 0);
        x.misses(3);
        check.due("but with another one that is missed", x.unseen(), 1 | 4);
        x.forget();
        x.sees(0, 1, 3);
        check.due("a tick", x.unseen(), 2 | 4);
        x.forget();
        x.sees(1, 3, 3);
        check.due("from another node", x.unseen(), 1 | 2);
        x.sees(2, 3, 121);
        check.due("and one that is missed", x.unseen(), 1 | 2);
        check.due("contacts are not missed by it", x.contact(1, 6), 0);
        check.due("undo", x.count(8), 2);
        check.due("no contacts", new ContactWays().unseen(), 0);
    }

    private static void unseenKeepsBookings() {
        check.about("promise 20, bookings");
        ContactWays x = Check.planned("c0 1 0 10 1 0;c0 1 0 20 1 0;");
        x.sends(0, 1, 5, 99, 2);
        x.sees(0, 1, 1);
        check.due("the bundle stays on 0", x.unseen(), 1);
        x.forget();
        x.sees(0, 1, 6);
        check.due("behind the bundle", x.unseen(), 2);
        x.forget();
        ContactWays y = Check.planned("c0 1 0 10 1 0;c0 1 0 20 1 0;");
        y.sends(0, 1, 5, 99, 1);
        y.sees(0, 1, 1);
        check.due("priority 2 and size 1", y.unseen(), 3);
        y.passes(2);
        y.forget();
        y.sees(0, 1, 6);
        check.due("behind a hop on its way", y.unseen(), 2);
    }
}
