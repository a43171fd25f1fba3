/** Promises 7 to 11: drops, passes, misses, finds, undo. */
public final class ActionTests {
    private static final Check check = new Check();

    public static void main(String[] args) {
        drops();
        passes();
        missesErrors();
        missesOnItsWay();
        missesToCome();
        missesSet();
        missesDroppedAndLate();
        missesEight();
        finds();
        undo();
        undoLimits();
        undoneSlots();
        check.close();
    }

    private static void drops() {
        check.about("promise 7");
        ContactWays x = Check.planned("c0 1 0 9 1 3;c0 1 20 40 1 0;");
        x.sends(0, 1, 5, 99, 0);
        x.sends(0, 1, 5, 99, 0);
        x.sends(0, 1, 1, 3, 0);
        x.sends(0, 0, 1, 99, 0);
        check.due("hops of 1", Check.hops(x, 1), "1@20");
        check.due("drops(-1)", x.drops(-1), Check.BAD);
        check.due("drops(4)", x.drops(4), Check.BAD);
        check.due("drops(8)", x.drops(8), Check.BAD);
        check.due("through", x.drops(3), Check.STATE);
        check.due("count(8)", x.count(8), 4);
        check.due("booked", x.drops(0), 1);
        check.due("bundle(0, 0)", x.bundle(0, 0), 4);
        check.due("bundle(0, 3)", x.bundle(0, 3), 0);
        check.due("its ticks", x.tick(0, 0), Check.NONE);
        check.due("others are not planned", Check.hops(x, 1), "1@20");
        check.due("again", x.drops(0), Check.STATE);
        check.due("waiting", x.drops(2), 1);
        check.due("count(8)", x.count(8), 6);
        x.passes(4);
        check.due("dropped behind its deadline", x.bundle(2, 0), 4);
        check.due("undo()", x.undo(), 6);
        check.due("undo()", x.undo(), 5);
        check.due("undo()", x.undo(), 4);
        x.passes(4);
        check.due("on its way", x.bundle(0, 3), 1);
        check.due("late", x.drops(2), Check.STATE);
        check.due("drops(0)", x.drops(0), 1);
        check.due("stands", x.bundle(0, 0), 4);
        check.due("its hop goes on", Check.hops(x, 0), "0@0");
        check.due("its ticks too", x.tick(0, 4), 0);
        x.passes(3);
        check.due("still", x.bundle(0, 0), 4);
        x.passes(1);
        check.due("through", x.bundle(0, 0), 2);
        check.due("drops(0)", x.drops(0), Check.STATE);
    }

    private static void passes() {
        check.about("promise 8");
        ContactWays x = Check.planned("n3;c0 1 0 9 1 2;c1 2 0 9 1 0;");
        check.due("passes(0)", x.passes(0), Check.BAD);
        check.due("passes(-1)", x.passes(-1), Check.BAD);
        check.due("passes(100)", x.passes(100), Check.BAD);
        check.due("passes(max)", x.passes(Integer.MAX_VALUE), Check.BAD);
        check.due("count(8)", x.count(8), 0);
        x.sends(0, 2, 2, 50, 0);
        check.due("passes(99)", x.passes(99), 99);
        check.due("through", x.bundle(0, 0), 2);
        check.due("at its goal", x.bundle(0, 1), 2);
        check.due("passes(1)", x.passes(1), Check.STATE);
        check.due("passes(100)", x.passes(100), Check.BAD);
        check.due("count(8)", x.count(8), 2);
        check.due("undo()", x.undo(), 1);
        check.due("passes(3)", x.passes(3), 3);
        check.due("node", x.bundle(0, 1), 0);
        check.due("hops", Check.hops(x, 0), "0@0 1@4");
        check.due("passes(1)", x.passes(1), 4);
        check.due("node", x.bundle(0, 1), 1);
        check.due("hops", Check.hops(x, 0), "1@4");
        check.due("passes(1)", x.passes(1), 5);
        check.due("node", x.bundle(0, 1), 1);
        check.due("passes(1)", x.passes(1), 6);
        check.due("node", x.bundle(0, 1), 2);
        check.due("passes(94)", x.passes(94), Check.STATE);
        check.due("passes(93)", x.passes(93), 99);
        check.due("count(3)", x.count(3), 99);
    }

    private static void missesErrors() {
        check.about("promise 9, errors");
        ContactWays x = Check.planned("c0 1 0 9 1 3;");
        check.due("misses(-1)", x.misses(-1), Check.BAD);
        check.due("misses(1)", x.misses(1), Check.BAD);
        check.due("misses(8)", x.misses(8), Check.BAD);
        check.due("misses(32)", x.misses(32), Check.BAD);
        check.due("misses(0)", x.misses(0), 0);
        check.due("misses(0) again", x.misses(0), Check.STATE);
        check.due("contact(0, 6)", x.contact(0, 6), 1);
        check.due("count(8)", x.count(8), 1);
        check.due("nothing is free", x.asks(0, 1, 1, 2), Check.NONE);
    }

    private static void missesOnItsWay() {
        check.about("promise 9, on its way");
        String plan = "c0 1 0 9 1 5;c0 1 30 40 1 0;";
        ContactWays x = Check.planned(plan);
        x.sends(0, 1, 3, 99, 0);
        x.passes(2);
        check.due("its last tick is now", x.misses(0), 0);
        check.due("hops", Check.hops(x, 0), "1@30");
        check.due("node", x.bundle(0, 1), 0);
        ContactWays y = Check.planned(plan);
        y.sends(0, 1, 3, 99, 0);
        y.passes(3);
        check.due("its ticks are over", y.misses(0), 0);
        check.due("hops", Check.hops(y, 0), "0@0");
        y.passes(4);
        check.due("node", y.bundle(0, 1), 0);
        y.passes(1);
        check.due("through", y.bundle(0, 0), 2);
        // a bundle that lost its hop is never at the other node
        ContactWays z = Check.planned("c0 1 0 9 1 5;");
        z.sends(0, 1, 3, 99, 0);
        z.passes(1);
        check.due("misses(0)", z.misses(0), 1);
        check.due("hops", z.bundle(0, 3), 0);
        z.passes(50);
        check.due("node", z.bundle(0, 1), 0);
        check.due("stands", z.bundle(0, 0), 0);
    }

    private static void missesToCome() {
        check.about("promise 9, to come");
        ContactWays x = Check.planned("n4;c0 1 0 9 1 2;c1 2 0 20 1 0;c2 3 0 20 1 0;c1 3 30 40 1 0;");
        check.due("sends", x.sends(0, 3, 2, 99, 0), 8);
        check.due("hops", Check.hops(x, 0), "0@0 1@4 2@6");
        check.due("misses(2)", x.misses(2), 0);
        check.due("all its hops are given up", Check.hops(x, 0), "0@0 3@30");
        check.due("undo()", x.undo(), 1);
        x.passes(1);
        check.due("misses(2)", x.misses(2), 0);
        check.due("on its way it goes on", Check.hops(x, 0), "0@0 3@30");
        check.due("misses(3)", x.misses(3), 1);
        check.due("hops", Check.hops(x, 0), "0@0");
        check.due("stands", x.bundle(0, 0), 0);
        check.due("why", x.bundle(0, 8), 0);
        // a hop behind it was given up when the one on its way was lost
        ContactWays y = Check.planned("n3;c0 1 0 9 1 0;c1 2 0 9 1 0;");
        y.sends(0, 2, 2, 99, 0);
        y.passes(1);
        check.due("misses(0)", y.misses(0), 1);
        check.due("hops", Check.hops(y, 0), "");
        check.due("ticks", y.tick(1, 2), Check.NONE);
    }

    private static void missesSet() {
        check.about("promise 9, the set");
        ContactWays x = Check.planned("c0 1 0 9 1 0;c0 1 20 24 1 0;c0 1 50 60 1 0;");
        x.sends(0, 1, 3, 99, 0);
        x.sends(0, 1, 3, 99, 0);
        x.sends(0, 1, 3, 99, 1);
        x.sends(1, 0, 1, 99, 0);
        check.due("hops of 2", Check.hops(x, 2), "0@0");
        check.due("hops of 0", Check.hops(x, 0), "0@6");
        check.due("hops of 1", Check.hops(x, 1), "0@3");
        check.due("misses(0)", x.misses(0), 1);
        check.due("hops of 2", Check.hops(x, 2), "1@20");
        check.due("hops of 0", Check.hops(x, 0), "2@50");
        check.due("hops of 1", Check.hops(x, 1), "2@53");
        check.due("misses(2)", x.misses(2), 3);
        check.due("misses(1)", x.misses(1), 4);
    }

    private static void missesDroppedAndLate() {
        check.about("promise 9, dropped and late");
        ContactWays x = Check.planned("n3;c0 1 0 20 1 5;c1 2 0 60 1 0;c0 1 30 60 1 0;");
        x.sends(0, 1, 10, 99, 0);
        x.passes(1);
        x.drops(0);
        check.due("misses(0)", x.misses(0), 0);
        check.due("hops", x.bundle(0, 3), 0);
        check.due("stands", x.bundle(0, 0), 4);
        x.passes(40);
        check.due("node", x.bundle(0, 1), 0);
        // one that waits and becomes late is not planned, wherever it is by then
        ContactWays z = Check.planned("n3;c0 1 0 20 1 0;c1 2 0 60 9 0;c1 2 70 80 9 0;");
        check.due("sends", z.sends(0, 2, 9, 10, 0), 10);
        z.passes(8);
        check.due("misses(1)", z.misses(1), 1);
        check.due("hops", Check.hops(z, 0), "0@0");
        check.due("why", z.bundle(0, 8), 1);
        check.due("finds(1)", z.finds(1), 0);
        check.due("hops", Check.hops(z, 0), "0@0 1@9");
        check.due("misses(1)", z.misses(1), 1);
        z.passes(3);
        check.due("late", z.bundle(0, 0), 3);
        check.due("node", z.bundle(0, 1), 1);
        check.due("finds(1)", z.finds(1), 0);
        check.due("hops", z.bundle(0, 3), 0);
        check.due("misses(1)", z.misses(1), 0);
    }

    private static void missesEight() {
        check.about("promise 9, a set of eight");
        ContactWays x = Check.planned("c0 1 0 40 1 0;c0 1 50 66 1 0;");
        int[] there = {2, 2, 2, 8, 6, 4, 14, 10};
        for (int b = 0; b < 8; b++) {
            check.due("sends", x.sends(0, 1, 2, 99, b % 3), there[b]);
        }
        check.due("misses(0)", x.misses(0), 0);
        // 2 and 5 have priority 2; 1, 4 and 7 priority 1; 0, 3 and 6 priority 0
        int[] order = {2, 5, 1, 4, 7, 0, 3, 6};
        for (int k = 0; k < 8; k++) {
            check.due("hops of " + order[k], Check.hops(x, order[k]), "1@" + (50 + 2 * k));
        }
        check.due("all wait", x.misses(1), 8);
    }

    private static void finds() {
        check.about("promise 10");
        ContactWays x = Check.planned("c0 1 0 9 1 0;c0 1 20 30 1 0;");
        check.due("finds(-1)", x.finds(-1), Check.BAD);
        check.due("finds(2)", x.finds(2), Check.BAD);
        check.due("finds(0)", x.finds(0), Check.STATE);
        x.misses(0);
        x.sends(0, 1, 3, 99, 0);
        x.sends(0, 1, 3, 9, 0);
        x.sends(0, 1, 7, 9, 1);
        x.sends(0, 1, 8, 9, 0);
        check.due("hops of 0", Check.hops(x, 0), "1@20");
        check.due("count(4)", x.count(4), 3);
        check.due("finds(0)", x.finds(0), 2);
        check.due("a booked one is not planned", Check.hops(x, 0), "1@20");
        check.due("the higher one first", Check.hops(x, 2), "0@0");
        check.due("hops of 1", Check.hops(x, 1), "");
        check.due("why 1 waits", x.bundle(1, 8), 1);
        check.due("hops of 3", Check.hops(x, 3), "");
        check.due("why 3 waits", x.bundle(3, 8), 0);
        check.due("contact(0, 6)", x.contact(0, 6), 0);
        check.due("finds(0) again", x.finds(0), Check.STATE);
        // one that is found a way can push out another
        ContactWays y = Check.planned("n3;c0 1 0 9 1 0;c1 2 0 9 1 0;");
        y.misses(0);
        y.sends(0, 2, 2, 99, 1);
        y.sends(1, 2, 4, 99, 0);
        check.due("hops of 1", Check.hops(y, 1), "1@0");
        check.due("finds(0)", y.finds(0), 0);
        check.due("hops of 0", Check.hops(y, 0), "0@0 1@2");
        check.due("hops of 1", Check.hops(y, 1), "1@4");
        // one that waits with a hop on its way is planned from where that leads
        ContactWays z = Check.planned("n3;c0 1 0 9 1 4;c1 2 0 30 1 0;");
        z.sends(0, 2, 2, 99, 1);
        z.passes(1);
        check.due("misses(1)", z.misses(1), 1);
        z.passes(1);
        check.due("finds(1)", z.finds(1), 0);
        check.due("hops", Check.hops(z, 0), "0@0 1@6");
        // late and dropped ones are not planned
        ContactWays w = Check.planned("c0 1 0 90 1 0;");
        w.misses(0);
        w.sends(0, 1, 1, 5, 0);
        w.sends(0, 1, 1, 90, 0);
        w.drops(1);
        w.passes(6);
        check.due("finds(0)", w.finds(0), 0);
        check.due("late", w.bundle(0, 3), 0);
        check.due("dropped", w.bundle(1, 3), 0);
    }

    private static final int[] DONE = {8, Check.NONE, 9, 3, 2, 1, 1};

    private static int act(ContactWays x, int k) {
        switch (k) {
            case 0: return x.sends(0, 2, 2, 99, 1);
            case 1: return x.sends(2, 0, 2, 99, 1);
            case 2: return x.sends(1, 2, 9, 99, 2);
            case 3: return x.passes(3);
            case 4: return x.misses(1);
            case 5: return x.drops(0);
            default: return x.finds(1);
        }
    }

    private static void undo() {
        check.about("promise 11");
        String plan = "n3;c0 1 0 9 1 4;c1 2 0 30 1 0;c1 2 40 50 1 0;";
        // the states come from another object, as the two tellings of one would be over 512 calls
        ContactWays x = Check.planned(plan);
        ContactWays twin = Check.planned(plan);
        check.due("undo()", x.undo(), Check.STATE);
        String[] states = new String[8];
        for (int k = 0; k < 7; k++) {
            states[k] = Check.state(twin);
            act(twin, k);
            check.due("action " + k, act(x, k), DONE[k]);
        }
        states[7] = Check.state(twin);
        x.sees(0, 1, 5);
        Check.type(x, "abc");
        x.keep(0);
        x.asks(0, 1, 1, 0);
        x.worst();
        x.unseen();
        x.misses(1);
        x.misses(1);
        x.finds(0);
        x.drops(0);
        x.passes(97);
        x.sends(0, 9, 1, 1, 1);
        check.due("count(8)", x.count(8), 8);
        for (int k = 7; k >= 0; k--) {
            check.due("undo()", x.undo(), k);
            check.due("state " + k, Check.state(x), states[k]);
        }
        check.due("undo()", x.undo(), Check.STATE);
        check.due("observations stay", x.count(6), 1);
        check.due("the text stays", x.count(7), 3);
        check.due("the image stays", x.back(0), 3);
        check.due("now", x.count(3), 3);
    }

    private static void undoLimits() {
        check.about("promise 11, the latest 8");
        ContactWays x = Check.planned("c0 1 0 9 1 4;");
        for (int k = 1; k <= 20; k++) {
            x.passes(1);
            check.due("count(8)", x.count(8), Math.min(k, 8));
        }
        for (int k = 7; k >= 3; k--) {
            check.due("undo()", x.undo(), k);
        }
        check.due("now", x.count(3), 15);
        x.passes(50);
        x.passes(1);
        check.due("count(8)", x.count(8), 5);
        for (int k = 4; k >= 0; k--) {
            check.due("undo()", x.undo(), k);
        }
        check.due("now", x.count(3), 12);
        check.due("undo()", x.undo(), Check.STATE);
        check.due("now", x.count(3), 12);
    }

    private static void undoneSlots() {
        check.about("promise 11, what is undone leaves nothing behind");
        ContactWays x = Check.planned("c0 1 0 9 1 4;");
        check.due("sends", x.sends(0, 1, 3, 99, 1), 7);
        check.due("undo()", x.undo(), 0);
        check.due("sends to where it is", x.sends(1, 1, 3, 99, 1), 0);
        check.due("hops", x.bundle(0, 3), 0);
        check.due("ticks", x.tick(0, 0), Check.NONE);
        check.due("undo()", x.undo(), 0);
        check.due("sends", x.sends(1, 0, 3, 99, 1), Check.NONE);
        check.due("hops", x.bundle(0, 3), 0);
        check.due("too late", x.sends(0, 1, 3, 5, 1), Check.NONE);
        x.passes(1);
        check.due("undo()", x.undo(), 2);
        check.due("why", x.bundle(1, 8), 1);
        check.due("why", x.bundle(0, 8), 0);
        check.due("drops(1)", x.drops(1), 1);
        check.due("undo()", x.undo(), 2);
        check.due("undo()", x.undo(), 1);
        check.due("sends", x.sends(0, 1, 3, 7, 1), 7);
        check.due("stands", x.bundle(1, 0), 1);
    }
}
