/** Promises 6, 12, 13 and 14: sends, bundle, hop, tick. */
public final class BundleTests {
    private static final Check check = new Check();

    public static void main(String[] args) {
        sendsRefuses();
        sendsAtGoalOrLate();
        deadlines();
        ticksAndWindows();
        bestWays();
        gaps();
        priorities();
        hopsOnTheirWayStay();
        pushedOutOnItsWay();
        neighbours();
        sixHops();
        bundle();
        reasons();
        hop();
        tick();
        check.close();
    }

    private static void sendsRefuses() {
        check.about("promise 6, errors");
        ContactWays x = Check.planned("c0 1 0 99 9 0;");
        check.due("node -1", x.sends(-1, 1, 1, 9, 0), Check.BAD);
        check.due("node 2", x.sends(2, 1, 1, 9, 0), Check.BAD);
        check.due("goal -1", x.sends(0, -1, 1, 9, 0), Check.BAD);
        check.due("goal 2", x.sends(0, 2, 1, 9, 0), Check.BAD);
        check.due("size 0", x.sends(0, 1, 0, 9, 0), Check.BAD);
        check.due("size 21", x.sends(0, 1, 21, 9, 0), Check.BAD);
        check.due("deadline -1", x.sends(0, 1, 1, -1, 0), Check.BAD);
        check.due("deadline 100", x.sends(0, 1, 1, 100, 0), Check.BAD);
        check.due("priority -1", x.sends(0, 1, 1, 9, -1), Check.BAD);
        check.due("priority 3", x.sends(0, 1, 1, 9, 3), Check.BAD);
        check.due("size 0 at the goal", x.sends(1, 1, 0, 9, 0), Check.BAD);
        check.due("count(2)", x.count(2), 0);
        check.due("count(8)", x.count(8), 0);
        check.due("size 20", x.sends(0, 1, 20, 99, 2), 3);
        for (int b = 1; b < 8; b++) {
            check.due("bundle " + b, x.sends(0, 1, 9, 99, 0), 3 + b);
        }
        String before = Check.state(x);
        check.due("a ninth one", x.sends(0, 1, 1, 9, 0), Check.FULL);
        check.due("a ninth one at its goal", x.sends(1, 1, 1, 9, 0), Check.FULL);
        check.due("a ninth one of size 0", x.sends(0, 1, 0, 9, 0), Check.BAD);
        check.due("state", Check.state(x), before);
        x.passes(50);
        check.due("a ninth one when all have arrived", x.sends(0, 1, 1, 90, 0), Check.FULL);
    }

    private static void sendsAtGoalOrLate() {
        check.about("promise 6, at the goal or late");
        ContactWays x = Check.planned("c0 1 0 99 1 0;");
        check.due("at its goal", x.sends(1, 1, 20, 0, 0), 0);
        check.due("count(8)", x.count(8), 1);
        check.due("bundle(0, 0)", x.bundle(0, 0), 2);
        x.passes(10);
        check.due("at its goal behind its deadline", x.sends(0, 0, 1, 5, 0), 10);
        check.due("bundle(1, 0)", x.bundle(1, 0), 2);
        check.due("late", x.sends(0, 1, 1, 9, 0), Check.NONE);
        check.due("bundle(2, 0)", x.bundle(2, 0), 3);
        check.due("bundle(2, 3)", x.bundle(2, 3), 0);
        check.due("bundle(2, 8)", x.bundle(2, 8), Check.NONE);
        check.due("in its deadline's tick", x.sends(0, 1, 1, 10, 0), Check.NONE);
        check.due("bundle(3, 0)", x.bundle(3, 0), 0);
        check.due("bundle(3, 8)", x.bundle(3, 8), 1);
        check.due("count(8)", x.count(8), 5);
        check.due("next", x.sends(0, 1, 1, 11, 0), 11);
    }

    private static void deadlines() {
        check.about("promise 6, deadlines");
        ContactWays x = Check.planned("c0 1 2 9 3 4;");
        check.due("one tick too short", x.sends(0, 1, 7, 8, 2), Check.NONE);
        check.due("bundle(0, 8)", x.bundle(0, 8), 1);
        check.due("just in time", x.sends(0, 1, 7, 9, 0), 9);
        check.due("hops", Check.hops(x, 1), "0@2");
        check.due("bundle(1, 0)", x.bundle(1, 0), 1);
    }

    private static void ticksAndWindows() {
        check.about("promise 6, ticks and windows");
        ContactWays x = Check.planned("c0 1 3 6 4 0;");
        check.due("size 8", x.asks(0, 1, 8, 0), 5);
        check.due("size 9", x.asks(0, 1, 9, 0), 6);
        check.due("size 12", x.sends(0, 1, 12, 99, 0), 6);
        check.due("a full window", x.sends(0, 1, 1, 99, 0), Check.NONE);
        check.due("bundle(1, 8)", x.bundle(1, 8), 0);
        check.due("size 13", x.sends(0, 1, 13, 99, 2), Check.NONE);
        check.due("bundle(2, 8)", x.bundle(2, 8), 0);
        ContactWays y = Check.planned("n3;c0 1 0 10 2 1;c1 2 0 20 3 0;");
        check.due("two hops", y.sends(0, 2, 6, 50, 0), 6);
        check.due("hops", Check.hops(y, 0), "0@0 1@4");
        ContactWays z = Check.planned("c0 1 0 10 1 0;");
        z.passes(8);
        check.due("the end of a window", z.sends(0, 1, 2, 99, 0), 10);
        check.due("no window left", z.sends(0, 1, 2, 99, 0), Check.NONE);
    }

    private static void ways(String text, int goal, int size, String want) {
        ContactWays x = Check.planned(text);
        x.sends(0, goal, size, 99, 0);
        check.due("way in " + text, Check.hops(x, 0), want);
    }

    private static void bestWays() {
        check.about("promise 6, best ways");
        // two contacts that are there before one
        ways("n3;c0 2 2 9 1 1;c0 1 0 9 1 0;c1 2 0 9 1 0;", 2, 1, "1@0 2@1");
        // of the same time, the fewest contacts
        ways("n3;c0 1 0 5 1 0;c1 2 0 5 1 0;c0 2 1 5 1 0;", 2, 1, "2@1");
        // of the same number, the lexicographically first
        ways("n4;c0 2 0 9 1 0;c0 1 0 9 1 0;c1 3 0 9 1 0;c2 3 0 9 1 0;", 3, 1, "0@0 3@1");
        ways("c0 1 0 9 1 0;c0 1 0 9 1 0;", 1, 1, "0@0");
        // also when its first contact is slower on the way
        ways("n3;c0 1 0 9 1 5;c0 1 0 9 1 0;c1 2 8 20 1 0;", 2, 1, "0@0 2@8");
        // five contacts
        ways("n6;c4 5 0 9 1 0;c3 4 0 9 1 0;c2 3 0 9 1 0;c1 2 0 9 1 0;c0 1 0 9 1 0;", 5, 1,
                "4@0 3@1 2@2 1@3 0@4");
        // a contact leads one way only, and only from its node
        ways("n3;c1 0 0 9 1 0;c1 2 0 9 1 0;", 2, 1, "");
        // circles lead nowhere
        ways("n3;c0 1 0 9 1 0;c1 0 0 9 1 0;c1 0 0 9 1 0;c0 1 0 9 1 0;", 2, 1, "");
        // the size decides: the slow one would be there first with a small bundle
        ways("c0 1 0 30 1 0;c0 1 5 30 9 0;", 1, 5, "0@0");
        ways("c0 1 0 30 1 0;c0 1 5 30 9 0;", 1, 6, "0@0");
        ways("c0 1 0 30 1 0;c0 1 5 30 9 0;", 1, 7, "1@5");
    }

    private static void gaps() {
        check.about("promise 6, gaps");
        ContactWays x = Check.planned("n3;c0 1 0 9 1 4;c1 2 0 30 1 0;");
        check.due("from afar", x.sends(0, 2, 2, 99, 1), 8);
        check.due("hops", Check.hops(x, 0), "0@0 1@6");
        check.due("too long for the gap", x.sends(1, 2, 7, 99, 1), 15);
        check.due("fits the gap", x.sends(1, 2, 6, 99, 1), 6);
        check.due("hops", Check.hops(x, 1), "1@8");
        check.due("hops", Check.hops(x, 2), "1@0");
    }

    private static void priorities() {
        check.about("promise 6, priorities");
        ContactWays x = Check.planned("c0 1 0 20 1 0;");
        check.due("low", x.sends(0, 1, 5, 99, 0), 5);
        check.due("middle", x.sends(0, 1, 5, 99, 1), 5);
        check.due("low then", x.bundle(0, 2), 10);
        check.due("high", x.sends(0, 1, 5, 99, 2), 5);
        check.due("middle then", x.bundle(1, 2), 10);
        check.due("low then", x.bundle(0, 2), 15);
        check.due("high again", x.sends(0, 1, 3, 99, 2), 8);
        check.due("high then", x.bundle(2, 2), 5);
        check.due("middle then", x.bundle(1, 2), 13);
        check.due("low then", x.bundle(0, 2), 18);
        check.due("high a third time", x.sends(0, 1, 3, 99, 2), 11);
        check.due("middle then", x.bundle(1, 2), 16);
        check.due("low then", x.bundle(0, 0), 0);
        check.due("why", x.bundle(0, 8), 0);
        check.due("low has no hops", x.bundle(0, 3), 0);

        // of several that are pushed out, the least number is planned first
        ContactWays y = Check.planned("c0 1 0 12 1 0;");
        check.due("0", y.sends(0, 1, 3, 99, 0), 3);
        check.due("1", y.sends(0, 1, 3, 99, 0), 6);
        check.due("2", y.sends(0, 1, 4, 99, 2), 4);
        check.due("hops of 0", Check.hops(y, 0), "0@4");
        check.due("hops of 1", Check.hops(y, 1), "0@7");
        // one that is not pushed out keeps its ticks
        ContactWays v = Check.planned("c0 1 0 9 1 0;");
        v.sends(0, 1, 3, 99, 0);
        v.sends(0, 1, 3, 99, 0);
        v.sends(0, 1, 3, 99, 0);
        check.due("3", v.sends(0, 1, 4, 99, 2), 4);
        check.due("hops of 0", Check.hops(v, 0), "");
        check.due("hops of 1", Check.hops(v, 1), "");
        check.due("hops of 2", Check.hops(v, 2), "0@6");
        // the higher priority is planned first, though its number is greater
        ContactWays z = Check.planned("c0 1 0 12 1 0;c0 1 40 43 1 0;");
        check.due("0", z.sends(0, 1, 3, 99, 0), 3);
        check.due("1", z.sends(0, 1, 3, 99, 1), 3);
        check.due("2", z.sends(0, 1, 3, 99, 2), 3);
        check.due("hops of 1", Check.hops(z, 1), "0@3");
        check.due("hops of 0", Check.hops(z, 0), "0@6");
        check.due("3", z.sends(0, 1, 6, 99, 2), 9);
        check.due("hops of 1", Check.hops(z, 1), "0@9");
        check.due("hops of 0", Check.hops(z, 0), "1@40");
    }

    private static void hopsOnTheirWayStay() {
        check.about("promise 6, hops on their way");
        ContactWays x = Check.planned("c0 1 0 20 1 0;");
        x.sends(0, 1, 5, 99, 0);
        x.passes(1);
        check.due("a higher priority", x.sends(0, 1, 2, 99, 2), 7);
        check.due("the low one", Check.hops(x, 0), "0@0");
        check.due("bundle(0, 1)", x.bundle(0, 1), 0);
        check.due("tick(0, 4)", x.tick(0, 4), 0);
        check.due("tick(0, 5)", x.tick(0, 5), 1);
        check.due("another middle one", x.sends(0, 1, 2, 99, 1), 9);
    }

    private static void pushedOutOnItsWay() {
        check.about("promise 6, pushed out while a hop is on its way");
        ContactWays x = Check.planned("n3;c0 1 0 5 1 0;c1 2 0 30 1 0;");
        check.due("low", x.sends(0, 2, 3, 99, 0), 6);
        x.passes(1);
        check.due("high", x.sends(1, 2, 10, 99, 1), 11);
        check.due("low's hops", Check.hops(x, 0), "0@0 1@11");
        check.due("low", x.bundle(0, 2), 14);
        ContactWays y = Check.planned("n3;c0 1 0 5 1 0;c1 2 0 30 1 0;");
        check.due("low", y.sends(0, 2, 3, 10, 0), 6);
        y.passes(1);
        check.due("high", y.sends(1, 2, 10, 99, 1), 11);
        check.due("low's hops", Check.hops(y, 0), "0@0");
        check.due("bundle(0, 0)", y.bundle(0, 0), 0);
        check.due("bundle(0, 1)", y.bundle(0, 1), 0);
        check.due("bundle(0, 2)", y.bundle(0, 2), 3);
        check.due("bundle(0, 3)", y.bundle(0, 3), 1);
        check.due("bundle(0, 8)", y.bundle(0, 8), 1);
        y.passes(2);
        check.due("bundle(0, 1)", y.bundle(0, 1), 1);
        check.due("bundle(0, 2)", y.bundle(0, 2), Check.NONE);
    }

    private static void neighbours() {
        check.about("promise 6, hops side by side push nothing out");
        ContactWays x = Check.planned("n3;c0 1 0 20 1 0;c2 0 0 9 1 5;");
        x.sends(0, 1, 3, 99, 0);
        check.due("low", x.sends(0, 1, 3, 99, 0), 6);
        x.drops(0);
        check.due("behind it", x.sends(2, 1, 1, 99, 2), 7);
        check.due("low's hops", Check.hops(x, 1), "0@3");
        x.undo();
        check.due("before it", x.sends(0, 1, 2, 99, 2), 2);
        check.due("low's hops", Check.hops(x, 1), "0@3");
        check.due("just before it", x.sends(0, 1, 1, 99, 2), 3);
        check.due("low's hops", Check.hops(x, 1), "0@3");
        check.due("on it", x.sends(0, 1, 1, 99, 2), 4);
        check.due("low's hops", Check.hops(x, 1), "0@4");
    }

    /** A bundle on its way to 1 that must go back over 0 has five hops to come. */
    private static void sixHops() {
        check.about("promise 6, a hop on its way and five to come");
        ContactWays x = Check.planned("n6;c0 1 0 9 1 0;c1 5 0 9 1 0;c1 0 0 90 1 0;c0 2 4 90 1 0;"
                + "c2 3 0 90 1 0;c3 4 0 90 1 0;c4 5 0 90 1 0;");
        check.due("sends", x.sends(0, 5, 2, 99, 0), 4);
        x.passes(1);
        check.due("misses(1)", x.misses(1), 0);
        check.due("hops", Check.hops(x, 0), "0@0 2@2 3@4 4@6 5@8 6@10");
        check.due("bundle(0, 0)", x.bundle(0, 0), 1);
        check.due("bundle(0, 2)", x.bundle(0, 2), 12);
        check.due("bundle(0, 3)", x.bundle(0, 3), 6);
        check.due("hop(0, 5, 1)", x.hop(0, 5, 1), 10);
        check.due("hop(0, 6, 1)", x.hop(0, 6, 1), Check.NONE);
        x.keep(0);
        x.passes(11);
        check.due("all at once", x.bundle(0, 0), 2);
        check.due("node", x.bundle(0, 1), 5);
        x.back(0);
        check.due("hops", Check.hops(x, 0), "0@0 2@2 3@4 4@6 5@8 6@10");
        x.passes(10);
        check.due("hops", Check.hops(x, 0), "6@10");
        check.due("node", x.bundle(0, 1), 4);
    }

    private static void bundle() {
        check.about("promise 12");
        ContactWays x = Check.planned("n3;c0 1 0 10 2 1;c1 2 6 20 3 2;");
        x.sends(0, 2, 6, 50, 1);
        int[] first = {1, 0, 10, 2, 1, 6, 50, 2, Check.NONE};
        for (int what = 0; what <= 8; what++) {
            check.due("bundle(0, " + what + ")", x.bundle(0, what), first[what]);
        }
        x.sends(2, 0, 20, 7, 2);
        int[] second = {0, 2, Check.NONE, 0, 2, 20, 7, 0, 0};
        for (int what = 0; what <= 8; what++) {
            check.due("bundle(1, " + what + ")", x.bundle(1, what), second[what]);
        }
        check.due("bundle(-1, 0)", x.bundle(-1, 0), Check.BAD);
        check.due("bundle(2, 0)", x.bundle(2, 0), Check.BAD);
        check.due("bundle(8, 0)", x.bundle(8, 0), Check.BAD);
        check.due("bundle(0, -1)", x.bundle(0, -1), Check.BAD);
        check.due("bundle(0, 9)", x.bundle(0, 9), Check.BAD);
        x.passes(3);
        check.due("on its way: node", x.bundle(0, 1), 0);
        check.due("on its way: hops", x.bundle(0, 3), 2);
        x.passes(1);
        check.due("between: node", x.bundle(0, 1), 1);
        check.due("between: hops", Check.hops(x, 0), "1@6");
        check.due("between: stands", x.bundle(0, 0), 1);
        x.passes(3);
        check.due("in its deadline's tick", x.bundle(1, 0), 0);
        x.passes(1);
        check.due("behind its deadline", x.bundle(1, 0), 3);
        check.due("why no more", x.bundle(1, 8), Check.NONE);
        x.passes(1);
        check.due("nearly there", x.bundle(0, 0), 1);
        x.passes(1);
        check.due("through", x.bundle(0, 0), 2);
        check.due("through: node", x.bundle(0, 1), 2);
        check.due("through: tick", x.bundle(0, 2), Check.NONE);
        check.due("through: hops", x.bundle(0, 3), 0);
        x.passes(60);
        check.due("through behind its deadline", x.bundle(0, 0), 2);
    }

    private static void reasons() {
        check.about("promise 12, why it waits");
        ContactWays x = Check.planned("c0 1 0 5 1 0;c0 1 50 60 1 0;");
        check.due("sends", x.sends(0, 1, 5, 9, 0), 5);
        check.due("not waiting", x.bundle(0, 8), Check.NONE);
        check.due("misses(0)", x.misses(0), 1);
        check.due("too late", x.bundle(0, 8), 1);
        check.due("misses(1)", x.misses(1), 1);
        check.due("not planned again", x.bundle(0, 8), 1);
        check.due("finds(1)", x.finds(1), 1);
        check.due("too late", x.bundle(0, 8), 1);
        x.misses(1);
        x.passes(1);
        check.due("finds(0)", x.finds(0), 1);
        check.due("no way", x.bundle(0, 8), 0);
        check.due("drops(0)", x.drops(0), 1);
        check.due("dropped", x.bundle(0, 8), Check.NONE);
    }

    private static void hop() {
        check.about("promise 13");
        ContactWays x = Check.planned("n3;c1 2 6 20 3 2;c0 1 0 10 2 1;");
        x.sends(0, 2, 6, 50, 1);
        check.due("hop(0, 0, 0)", x.hop(0, 0, 0), 1);
        check.due("hop(0, 0, 1)", x.hop(0, 0, 1), 0);
        check.due("hop(0, 1, 0)", x.hop(0, 1, 0), 0);
        check.due("hop(0, 1, 1)", x.hop(0, 1, 1), 6);
        check.due("hop(0, 2, 0)", x.hop(0, 2, 0), Check.NONE);
        check.due("hop(0, max, 1)", x.hop(0, Integer.MAX_VALUE, 1), Check.NONE);
        check.due("hop(0, 1 << 30, 1)", x.hop(0, 1 << 30, 1), Check.NONE);
        check.due("hop(0, -1, 0)", x.hop(0, -1, 0), Check.BAD);
        check.due("hop(0, min, 0)", x.hop(0, Integer.MIN_VALUE, 0), Check.BAD);
        check.due("hop(0, 0, 2)", x.hop(0, 0, 2), Check.BAD);
        check.due("hop(0, 0, -1)", x.hop(0, 0, -1), Check.BAD);
        check.due("hop(0, 9, 2)", x.hop(0, 9, 2), Check.BAD);
        check.due("hop(-1, 0, 0)", x.hop(-1, 0, 0), Check.BAD);
        check.due("hop(1, 0, 0)", x.hop(1, 0, 0), Check.BAD);
        x.passes(1);
        check.due("on its way", Check.hops(x, 0), "1@0 0@6");
        x.passes(3);
        check.due("there", Check.hops(x, 0), "0@6");
        x.passes(20);
        check.due("through", x.hop(0, 0, 0), Check.NONE);
    }

    private static void tick() {
        check.about("promise 14");
        ContactWays x = Check.planned("c0 1 2 20 1 9;c0 1 0 99 1 9;");
        x.misses(1);
        x.sends(0, 1, 3, 99, 0);
        x.sends(0, 1, 2, 99, 0);
        x.finds(1);
        int[] due = {Check.NONE, Check.NONE, 0, 0, 0, 1, 1, Check.NONE};
        for (int t = 0; t < due.length; t++) {
            check.due("tick(0, " + t + ")", x.tick(0, t), due[t]);
            check.due("tick(1, " + t + ")", x.tick(1, t), Check.NONE);
        }
        check.due("tick(0, 99)", x.tick(0, 99), Check.NONE);
        check.due("tick(0, 100)", x.tick(0, 100), Check.BAD);
        check.due("tick(0, -1)", x.tick(0, -1), Check.BAD);
        check.due("tick(-1, 5)", x.tick(-1, 5), Check.BAD);
        check.due("tick(2, 5)", x.tick(2, 5), Check.BAD);
        x.passes(3);
        check.due("tick(0, 2) later", x.tick(0, 2), Check.BAD);
        check.due("tick(0, 3) later", x.tick(0, 3), 0);
        x.misses(0);
        check.due("tick(0, 5) missed", x.tick(0, 5), Check.NONE);
        check.due("tick(1, 3) anew", x.tick(1, 3), 0);
        check.due("tick(1, 7) anew", x.tick(1, 7), 1);
    }
}
