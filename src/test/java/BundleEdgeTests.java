/** The boundary cases of bundles and of promises 6 and 12 to 14, a test for each sentence. */
public final class BundleEdgeTests {
    private static final Check check = new Check();
    private static final int WAITS = 0, BOOKED = 1, THROUGH = 2, LATE = 3, DROPPED = 4;

    public static void main(String[] args) {
        promise6AtMostEightBundles();
        promise6NumberedInTheirOrder();
        promise6Nodes();
        promise6Sizes();
        promise6Deadlines();
        promise6Priorities();
        promise6BadComesFirst();
        promise6FullComesBeforeNone();
        promise6AtItsGoal();
        promise6Late();
        promise6WaitsAnswersNone();
        promise6IsAnAction();
        promise6RoundedUp();
        promise6AtTheOtherNode();
        promise6NotAfterItsDeadline();
        promise6TheLatestWay();
        promise6OneToFiveContacts();
        promise6FirstTickNotBeforeItIsThere();
        promise6ConsecutiveFreeTicks();
        promise6FreeTicksWithinTheWindow();
        promise6NowOrLater();
        promise6MissedTicksAreNotFree();
        promise6NoHopOnItsWayTakesIt();
        promise6SameOrHigherPriority();
        promise6FirstAtTheGoal();
        promise6FewestContacts();
        promise6LexicographicallyFirst();
        promise6HopThatBeginsNowIsToCome();
        promise6PushedOutByOneTick();
        promise6NeighboursPushNothingOut();
        promise6PushedOutGivesUpAllHopsToCome();
        promise6PlannedWithAHopOnItsWay();
        promise6PushesOutLowerPrioritiesAlone();
        promise6HighestPriorityFirst();
        promise6LeastNumberFirst();
        promise6PushedOutAreAddedToTheSet();
        promise6AtItsGoalAsSoonAsItsHopHasArrived();
        promise12Bundles();
        promise12What();
        promise12LateIfNowIsGreater();
        promise12TheFirstThatApplies();
        promise12Node();
        promise12LastTick();
        promise12NumberOfHops();
        promise12WhyItWaits();
        promise13Bundles();
        promise13Index();
        promise13What();
        promise13BadComesBeforeNone();
        promise13TheOneOnItsWayFirst();
        promise13SixHops();
        promise14Contacts();
        promise14NowTo99();
        promise14FirstAndLastTick();
        promise14HopOnItsWay();
        promise14BadComesBeforeNone();
        check.close();
    }

    private static final String WIDE = "c0 1 0 99 1 0;";

    private static void stands(ContactWays x, int b, int how) {
        check.due("bundle(" + b + ", 0)", x.bundle(b, 0), how);
    }

    private static void hops(ContactWays x, int b, String want) {
        check.due("hops of " + b, Check.hops(x, b), want);
    }

    private static void promise6AtMostEightBundles() {
        check.about("promise 6: 'FULL if there are 8 bundles', 'counted also when they have arrived'");
        new Twins(check, Twins::full).refuse("a ninth one", Check.FULL, x -> x.sends(0, 1, 1, 99, 2));
        ContactWays x = Check.planned(WIDE);
        for (int b = 0; b < 8; b++) {
            check.due("count(2)", x.count(2), b);
            check.due("sends", x.sends(0, 1, 1, 99, 0), b + 1);
        }
        check.due("count(2)", x.count(2), 8);
        check.due("a ninth one", x.sends(0, 1, 1, 99, 0), Check.FULL);
        x.passes(8);
        stands(x, 7, THROUGH);
        check.due("when all are through", x.sends(0, 1, 1, 99, 0), Check.FULL);
        check.due("count(2)", x.count(2), 8);
        x.undo();
        x.undo();
        check.due("the eighth one again", x.sends(0, 1, 1, 99, 0), 8);
        check.due("a ninth one", x.sends(0, 1, 1, 99, 0), Check.FULL);
    }

    private static ContactWays eightDone() {
        ContactWays x = Check.planned(WIDE);
        for (int b = 0; b < 4; b++) {
            x.sends(1, 0, 1, 5, 0);
            x.sends(1, 0, 1, 90, 0);
        }
        for (int b = 0; b < 4; b++) {
            x.drops(2 * b + 1);
        }
        x.passes(6);
        return x;
    }

    private static void promise6NumberedInTheirOrder() {
        check.about("promise 6: 'numbered from 0 in the order in which they are sent'");
        ContactWays x = Check.planned(WIDE);
        for (int b = 0; b < 8; b++) {
            x.sends(0, 1, b + 1, 99 - b, b % 3);
        }
        for (int b = 0; b < 8; b++) {
            check.due("bundle(" + b + ", 5)", x.bundle(b, 5), b + 1);
            check.due("bundle(" + b + ", 6)", x.bundle(b, 6), 99 - b);
            check.due("bundle(" + b + ", 4)", x.bundle(b, 4), b % 3);
        }
        check.due("bundle(8, 5)", x.bundle(8, 5), Check.BAD);
        check.about("promise 6: late and dropped bundles are counted");
        new Twins(check, BundleEdgeTests::eightDone).refuse("a ninth one", Check.FULL, y -> y.sends(0, 1, 1, 99, 2));
    }

    private static void promise6Nodes() {
        check.about("promise 6: 'BAD if there is no such node'");
        Twins busy = new Twins(check, Twins::busy);
        busy.refuseOutside("node", 0, 3, (x, v) -> x.sends(v, 1, 1, 99, 0));
        busy.refuseOutside("goal", 0, 3, (x, v) -> x.sends(1, v, 1, 99, 0));
        busy.refuse("the same wrong node", Check.BAD, x -> x.sends(4, 4, 1, 99, 0));
        ContactWays x = Check.planned("n6;c0 5 0 9 1 0;c5 0 0 9 1 0;");
        check.due("to the last node", x.sends(0, 5, 1, 99, 0), 1);
        check.due("from the last node", x.sends(5, 0, 1, 99, 0), 1);
        check.due("to one more", x.sends(0, 6, 1, 99, 0), Check.BAD);
        check.due("from one more", x.sends(6, 0, 1, 99, 0), Check.BAD);
    }

    private static void promise6Sizes() {
        check.about("promise 6: 'the size, 1 to 20'");
        new Twins(check, Twins::busy).refuseOutside("size", 1, 20, (x, v) -> x.sends(0, 1, v, 99, 0));
        ContactWays x = Check.planned(WIDE);
        check.due("size 1", x.sends(0, 1, 1, 99, 0), 1);
        check.due("size 20", x.sends(0, 1, 20, 99, 0), 21);
        check.due("bundle(1, 5)", x.bundle(1, 5), 20);
        check.due("size 20 at its goal", x.sends(1, 1, 20, 99, 0), 0);
        check.due("size 0 at its goal", x.sends(1, 1, 0, 99, 0), Check.BAD);
        check.due("size 21 at its goal", x.sends(1, 1, 21, 99, 0), Check.BAD);
    }

    private static void promise6Deadlines() {
        check.about("promise 6: 'the deadline, 0 to 99'");
        new Twins(check, Twins::busy).refuseOutside("deadline", 0, 99, (x, v) -> x.sends(0, 1, 1, v, 0));
        ContactWays x = Check.planned(WIDE);
        check.due("deadline 0", x.sends(0, 1, 1, 0, 0), Check.NONE);
        stands(x, 0, WAITS);
        check.due("deadline 99", x.sends(0, 1, 1, 99, 0), 1);
        check.due("bundle(1, 6)", x.bundle(1, 6), 99);
        check.due("deadline 0 at its goal", x.sends(1, 1, 1, 0, 0), 0);
        check.due("deadline 100 at its goal", x.sends(1, 1, 1, 100, 0), Check.BAD);
        check.due("deadline -1 at its goal", x.sends(1, 1, 1, -1, 0), Check.BAD);
    }

    private static void promise6Priorities() {
        check.about("promise 6: 'the priority, 0 to 2'");
        new Twins(check, Twins::busy).refuseOutside("priority", 0, 2, (x, v) -> x.sends(0, 1, 1, 99, v));
        ContactWays x = Check.planned(WIDE);
        for (int priority = 0; priority <= 2; priority++) {
            check.due("priority " + priority, x.sends(0, 1, 1, 99, priority), 1);
            check.due("bundle(" + priority + ", 4)", x.bundle(priority, 4), priority);
        }
    }

    private static void promise6BadComesFirst() {
        check.about("promise 6: BAD comes before FULL");
        Twins full = new Twins(check, Twins::full);
        full.refuseOutside("node", 0, 3, (x, v) -> x.sends(v, 1, 1, 99, 0));
        full.refuseOutside("goal", 0, 3, (x, v) -> x.sends(1, v, 1, 99, 0));
        full.refuseOutside("size", 1, 20, (x, v) -> x.sends(0, 1, v, 99, 0));
        full.refuseOutside("deadline", 0, 99, (x, v) -> x.sends(0, 1, 1, v, 0));
        full.refuseOutside("priority", 0, 2, (x, v) -> x.sends(0, 1, 1, 99, v));
    }

    private static void promise6FullComesBeforeNone() {
        check.about("promise 6: 'NONE is returned only if no error applies'");
        Twins full = new Twins(check, Twins::full);
        full.refuse("late", Check.FULL, x -> x.sends(0, 1, 1, 4, 0));
        full.refuse("without a way", Check.FULL, x -> x.sends(2, 3, 1, 99, 0));
        full.refuse("too late", Check.FULL, x -> x.sends(0, 1, 1, 5, 0));
        full.refuse("at its goal", Check.FULL, x -> x.sends(1, 1, 1, 99, 0));
    }

    private static void promise6AtItsGoal() {
        check.about("promise 6: 'now, if it is there already'");
        ContactWays x = Check.planned(WIDE + "c1 0 0 99 1 0;");
        check.due("at 0", x.sends(1, 1, 20, 99, 2), 0);
        stands(x, 0, THROUGH);
        hops(x, 0, "");
        x.passes(99);
        check.due("at 99", x.sends(0, 0, 1, 99, 0), 99);
        check.due("behind its deadline", x.sends(0, 0, 1, 98, 0), 99);
        check.due("far behind its deadline", x.sends(0, 0, 1, 0, 0), 99);
        stands(x, 3, THROUGH);
        check.due("bundle(3, 8)", x.bundle(3, 8), Check.NONE);
        check.due("count(8)", x.count(8), 5);
    }

    private static void promise6Late() {
        check.about("promise 6: 'NONE if it waits or is late', late is a deadline before now");
        ContactWays x = Check.planned(WIDE);
        check.due("low", x.sends(0, 1, 9, 99, 0), 9);
        x.passes(5);
        x.undo();
        x.drops(0);
        check.due("another low one", x.sends(0, 1, 3, 99, 0), 3);
        x.passes(7);
        check.due("a third low one", x.sends(0, 1, 3, 99, 0), 10);
        check.due("deadline now - 1", x.sends(0, 1, 1, 6, 2), Check.NONE);
        stands(x, 3, LATE);
        check.due("a late one has no reason", x.bundle(3, 8), Check.NONE);
        check.due("a late one pushes nobody out", x.bundle(2, 2), 10);
        check.due("deadline now", x.sends(0, 1, 1, 7, 2), Check.NONE);
        stands(x, 4, WAITS);
        check.due("it was planned", x.bundle(4, 8), 1);
        check.due("and pushes nobody out", x.bundle(2, 2), 10);
        check.due("deadline now + 1", x.sends(0, 1, 1, 8, 2), 8);
        stands(x, 5, BOOKED);
        check.due("and pushes one out", x.bundle(2, 2), 11);
        check.due("deadline 0", x.sends(0, 1, 1, 0, 2), Check.NONE);
        stands(x, 6, LATE);
    }

    private static void promise6WaitsAnswersNone() {
        check.about("promise 6: 'NONE if it waits'");
        ContactWays x = Check.planned("n3;" + WIDE);
        check.due("no way", x.sends(0, 2, 1, 99, 0), Check.NONE);
        check.due("too late", x.sends(0, 1, 9, 8, 0), Check.NONE);
        stands(x, 0, WAITS);
        stands(x, 1, WAITS);
        check.due("bundle(0, 8)", x.bundle(0, 8), 0);
        check.due("bundle(1, 8)", x.bundle(1, 8), 1);
        check.due("count(2)", x.count(2), 2);
    }

    private static void promise6IsAnAction() {
        check.about("promise 6: 'This is an action'");
        ContactWays x = Check.planned(WIDE);
        x.sends(0, 1, 2, 99, 0);
        check.due("booked", x.count(8), 1);
        x.sends(1, 0, 2, 99, 0);
        check.due("it waits", x.count(8), 2);
        x.sends(1, 1, 2, 99, 0);
        check.due("at its goal", x.count(8), 3);
        x.passes(1);
        x.sends(1, 0, 2, 0, 0);
        check.due("late", x.count(8), 5);
        check.due("undo()", x.undo(), 4);
        check.due("count(2)", x.count(2), 3);
    }

    private static void promise6RoundedUp() {
        check.about("promise 6: 'D is the size divided by the rate, rounded up'");
        for (int rate = 1; rate <= 9; rate++) {
            for (int size = 1; size <= 20; size++) {
                int ticks = 0;
                while (ticks * rate < size) {
                    ticks++;
                }
                ContactWays x = Check.planned("c0 1 0 99 " + rate + " 0;");
                check.due("size " + size + " at rate " + rate, x.sends(0, 1, size, 99, 0), ticks);
                check.due("its last tick", x.tick(0, ticks - 1), 0);
                check.due("the tick behind", x.tick(0, ticks), Check.NONE);
            }
        }
    }

    private static void promise6AtTheOtherNode() {
        check.about("promise 6: 'at the other node in the tick (the beginning + D + the light time)'");
        for (int light = 0; light <= 9; light++) {
            ContactWays x = Check.planned("c0 1 3 9 2 " + light + ";");
            int there = 3 + 2 + light;
            check.due("light time " + light, x.sends(0, 1, 3, 99, 0), there);
            x.passes(there - 1);
            stands(x, 0, BOOKED);
            check.due("node one tick before", x.bundle(0, 1), 0);
            check.due("hops one tick before", x.bundle(0, 3), 1);
            x.passes(1);
            stands(x, 0, THROUGH);
            check.due("node", x.bundle(0, 1), 1);
            check.due("hops", x.bundle(0, 3), 0);
        }
    }

    private static void promise6NotAfterItsDeadline() {
        check.about("promise 6: 'it is at the goal by this way not after its deadline'");
        ContactWays x = Check.planned("c0 1 0 99 9 0;");
        check.due("deadline 1", x.sends(0, 1, 1, 1, 0), 1);
        check.due("deadline 1 once more", x.sends(0, 1, 1, 1, 0), Check.NONE);
        check.due("bundle(1, 8)", x.bundle(1, 8), 1);
        check.due("deadline 2", x.sends(0, 1, 1, 2, 0), 2);
        ContactWays y = Check.planned("n3;c0 1 10 20 2 3;c1 2 0 40 1 4;");
        check.due("over two contacts, one tick too late", y.sends(0, 2, 5, 24, 0), Check.NONE);
        hops(y, 0, "");
        check.due("bundle(0, 8)", y.bundle(0, 8), 1);
        check.due("over two contacts, just in time", y.sends(0, 2, 5, 25, 0), 25);
        hops(y, 1, "0@10 1@16");
    }

    private static void promise6TheLatestWay() {
        check.about("promise 6: a way that is at the goal behind tick 99");
        check.due("in tick 99", Check.planned("c0 1 98 99 1 0;").sends(0, 1, 1, 99, 0), 99);
        for (int light = 1; light <= 9; light++) {
            ContactWays x = Check.planned("c0 1 98 99 1 " + light + ";");
            check.due("in tick " + (99 + light), x.sends(0, 1, 1, 99, 0), Check.NONE);
            check.due("bundle(0, 8)", x.bundle(0, 8), 1);
            check.due("asks", x.asks(0, 1, 1, 0), 99 + light);
        }
        ContactWays y = Check.planned("n3;c0 1 97 98 1 0;c1 2 98 99 1 0;");
        check.due("two last ticks", y.sends(0, 2, 1, 99, 0), 99);
        ContactWays z = Check.planned("n3;c0 1 97 99 1 1;c1 2 0 99 1 0;");
        check.due("there in tick 99, when nothing begins", z.sends(0, 2, 1, 99, 0), Check.NONE);
        check.due("bundle(0, 8)", z.bundle(0, 8), 0);
        ContactWays v = Check.planned("n3;c0 1 98 99 1 9;c1 2 0 99 1 0;");
        check.due("there in tick 108", v.sends(0, 2, 1, 99, 0), Check.NONE);
        check.due("bundle(0, 8)", v.bundle(0, 8), 0);
    }

    private static void promise6OneToFiveContacts() {
        check.about("promise 6: 'one to five contacts'");
        String chain = "c0 1 0 99 1 0;c1 2 0 99 1 0;c2 3 0 99 1 0;c3 4 0 99 1 0;c4 5 0 99 1 0;";
        for (int goal = 1; goal <= 5; goal++) {
            ContactWays x = Check.planned("n6;" + chain);
            check.due("to " + goal, x.sends(0, goal, 2, 99, 0), 2 * goal);
            check.due("hops", x.bundle(0, 3), goal);
        }
        ContactWays y = Check.planned("n6;" + chain);
        y.misses(0);
        check.due("without the first", y.sends(0, 5, 2, 99, 0), Check.NONE);
        y.finds(0);
        y.misses(4);
        check.due("without the last", y.sends(0, 5, 2, 99, 0), Check.NONE);
    }

    private static void promise6FirstTickNotBeforeItIsThere() {
        check.about("promise 6: 'the first tick, not before the bundle is there'");
        ContactWays x = Check.planned("n3;c0 1 0 9 1 2;c1 2 0 20 1 0;");
        check.due("the window is open", x.sends(0, 2, 3, 99, 0), 8);
        hops(x, 0, "0@0 1@5");
        ContactWays y = Check.planned("n3;c0 1 0 9 1 2;c1 2 5 20 1 0;");
        check.due("it opens then", y.sends(0, 2, 3, 99, 0), 8);
        hops(y, 0, "0@0 1@5");
        ContactWays z = Check.planned("n3;c0 1 0 9 1 2;c1 2 6 20 1 0;");
        check.due("it opens later", z.sends(0, 2, 3, 99, 0), 9);
        hops(z, 0, "0@0 1@6");
        ContactWays v = Check.planned("n3;c0 1 0 9 1 2;c1 2 0 8 1 0;");
        check.due("just before it closes", v.sends(0, 2, 3, 99, 0), 8);
        ContactWays w = Check.planned("n3;c0 1 0 9 1 2;c1 2 0 7 1 0;");
        check.due("a tick too few", w.sends(0, 2, 3, 99, 0), Check.NONE);
    }

    /** Ticks 0 to 5 of contact 1 are free, 6 and 7 are taken, those behind them are free. */
    private static ContactWays gap() {
        ContactWays x = Check.planned("n3;c0 1 0 9 1 4;c1 2 0 12 1 0;");
        x.sends(0, 2, 2, 99, 1);
        return x;
    }

    private static void promise6ConsecutiveFreeTicks() {
        check.about("promise 6: 'D consecutive free ticks'");
        hops(gap(), 0, "0@0 1@6");
        check.due("as long as the gap", gap().sends(1, 2, 6, 99, 1), 6);
        check.due("a tick longer", gap().sends(1, 2, 7, 99, 1), Check.NONE);
        ContactWays x = gap();
        x.passes(2);
        check.due("as long as what is left", x.sends(1, 2, 4, 99, 1), 6);
        ContactWays y = gap();
        y.passes(3);
        check.due("behind the gap", y.sends(1, 2, 4, 99, 1), 12);
        hops(y, 1, "1@8");
        ContactWays z = gap();
        z.passes(2);
        check.due("neither before nor behind it", z.sends(1, 2, 5, 99, 1), Check.NONE);
        check.due("bundle(1, 8)", z.bundle(1, 8), 0);
    }

    private static void promise6FreeTicksWithinTheWindow() {
        check.about("promise 6: 'free ticks within the window'");
        for (int size = 1; size <= 6; size++) {
            ContactWays x = Check.planned("c0 1 20 25 1 0;");
            check.due("size " + size, x.sends(0, 1, size, 99, 0), size <= 5 ? 20 + size : Check.NONE);
        }
        ContactWays y = Check.planned("c0 1 20 25 1 0;");
        y.passes(23);
        check.due("two ticks are left", y.sends(0, 1, 2, 99, 0), 25);
        y.undo();
        check.due("three are not", y.sends(0, 1, 3, 99, 0), Check.NONE);
    }

    private static void promise6NowOrLater() {
        check.about("promise 6: a tick is free if 'it is now or later'");
        for (int now = 1; now <= 9; now++) {
            ContactWays x = Check.planned("c0 1 0 10 1 0;");
            x.passes(now);
            check.due("one tick more than are left at " + now, x.sends(0, 1, 11 - now, 99, 0), Check.NONE);
            check.due("all that are left at " + now, x.sends(0, 1, 10 - now, 99, 0), 10);
            hops(x, 1, "0@" + now);
        }
    }

    private static void promise6MissedTicksAreNotFree() {
        check.about("promise 6: a tick is free if 'the contact is not missed'");
        ContactWays x = Check.planned(WIDE + "c0 1 9 20 1 0;");
        x.misses(0);
        check.due("sends", x.sends(0, 1, 1, 99, 2), 10);
        hops(x, 0, "1@9");
        x.misses(1);
        check.due("bundle(0, 8)", x.bundle(0, 8), 0);
        check.due("sends", x.sends(0, 1, 1, 99, 2), Check.NONE);
    }

    private static void promise6NoHopOnItsWayTakesIt() {
        check.about("promise 6: a tick is free if 'no hop on its way takes it'");
        for (int priority = 0; priority <= 2; priority++) {
            ContactWays x = Check.planned(WIDE);
            x.sends(0, 1, 5, 99, 0);
            x.passes(1);
            check.due("priority " + priority, x.sends(0, 1, 1, 99, priority), 6);
            hops(x, 0, "0@0");
            hops(x, 1, "0@5");
        }
        ContactWays y = Check.planned(WIDE);
        y.sends(0, 1, 5, 99, 0);
        y.passes(1);
        y.drops(0);
        check.due("also when it is dropped", y.sends(0, 1, 1, 99, 2), 6);
    }

    private static void promise6SameOrHigherPriority() {
        check.about("promise 6: 'another bundle with the same or a higher priority'");
        for (int first = 0; first <= 2; first++) {
            for (int second = 0; second <= 2; second++) {
                ContactWays x = Check.planned(WIDE);
                x.sends(0, 1, 5, 99, first);
                int there = first >= second ? 7 : 2;
                check.due(second + " behind " + first, x.sends(0, 1, 2, 99, second), there);
                check.due("the first then", x.bundle(0, 2), first >= second ? 5 : 7);
            }
        }
    }

    private static void way(String text, int goal, int size, int there, String want) {
        ContactWays x = Check.planned(text);
        check.due("sends in " + text, x.sends(0, goal, size, 99, 0), there);
        check.due("hops in " + text, Check.hops(x, 0), want);
    }

    private static void promise6FirstAtTheGoal() {
        check.about("promise 6: 'the one on which it is at the goal first'");
        // five contacts are a tick earlier than one
        way("n6;c0 5 5 9 1 0;c0 1 0 9 1 0;c1 2 0 9 1 0;c2 3 0 9 1 0;c3 4 0 9 1 0;c4 5 0 9 1 0;", 5, 1, 5,
                "1@0 2@1 3@2 4@3 5@4");
        // the light time decides, and the beginning, and the rate
        way("c0 1 0 9 1 1;c0 1 0 9 1 0;", 1, 1, 1, "1@0");
        way("c0 1 1 9 1 0;c0 1 0 9 1 0;", 1, 1, 1, "1@0");
        way("c0 1 0 9 1 0;c0 1 0 9 2 0;", 1, 2, 1, "1@0");
        // it begins later and is there first
        way("c0 1 0 9 1 9;c0 1 8 9 9 0;", 1, 1, 9, "1@8");
    }

    private static void promise6FewestContacts() {
        check.about("promise 6: 'of several, one with the fewest contacts'");
        way("n6;c0 1 0 9 1 0;c1 2 0 9 1 0;c2 3 0 9 1 0;c3 4 0 9 1 0;c4 5 0 9 1 0;c0 5 4 9 1 0;", 5, 1, 5, "5@4");
        way("n3;c0 1 0 9 1 0;c1 2 0 9 1 0;c0 2 0 9 1 1;", 2, 1, 2, "2@0");
        way("n4;c0 1 0 9 1 0;c1 2 0 9 1 0;c2 3 0 9 1 0;c1 3 2 9 1 0;", 3, 1, 3, "0@0 3@2");
    }

    private static void promise6LexicographicallyFirst() {
        check.about("promise 6: 'the one whose sequence of contacts is lexicographically first'");
        way("c0 1 0 9 1 1;c0 1 1 9 1 0;", 1, 1, 2, "0@0");
        way("c0 1 1 9 1 0;c0 1 0 9 1 1;", 1, 1, 2, "0@1");
        // the second contact decides when the first is the same
        way("n3;c0 1 0 9 1 0;c1 2 0 9 1 1;c1 2 2 9 1 0;", 2, 1, 3, "0@0 1@1");
        way("n3;c0 1 0 9 1 0;c1 2 2 9 1 0;c1 2 0 9 1 1;", 2, 1, 3, "0@0 1@2");
        way("n3;c1 2 2 9 1 0;c1 2 0 9 1 1;c0 1 0 9 1 0;", 2, 1, 3, "2@0 0@2");
        // the first contact decides, though the second is then a greater one
        way("n4;c2 3 0 9 1 0;c0 1 0 9 1 0;c0 2 0 9 1 0;c1 3 0 9 1 0;", 3, 1, 2, "1@0 3@1");
        way("n4;c1 3 0 9 1 0;c0 2 0 9 1 0;c0 1 0 9 1 0;c2 3 0 9 1 0;", 3, 1, 2, "1@0 3@1");
    }

    private static void promise6HopThatBeginsNowIsToCome() {
        check.about("promise 6: 'on its way if it began before now, and is to come otherwise'");
        ContactWays x = Check.planned(WIDE);
        x.sends(0, 1, 3, 99, 0);
        check.due("it begins now", x.sends(0, 1, 1, 99, 1), 1);
        hops(x, 0, "0@1");
        x.passes(1);
        check.due("it still begins now", x.sends(0, 1, 1, 99, 1), 2);
        hops(x, 0, "0@2");
        x.passes(2);
        check.due("it began before now", x.sends(0, 1, 1, 99, 1), 6);
        hops(x, 0, "0@2");
    }

    private static void promise6PushedOutByOneTick() {
        check.about("promise 6: pushed out are those 'that have a hop to come of which it takes a tick'");
        String plan = "n3;c0 1 0 30 1 0;c2 0 0 9 1 0;";
        ContactWays x = Check.planned(plan);
        x.sends(0, 1, 10, 99, 0);
        check.due("its first tick", x.sends(0, 1, 1, 99, 2), 1);
        hops(x, 0, "0@1");
        ContactWays y = Check.planned("n3;c0 1 0 30 1 0;c2 0 0 9 1 8;");
        y.sends(0, 1, 10, 99, 0);
        check.due("its last tick", y.sends(2, 1, 1, 99, 2), 10);
        hops(y, 1, "1@0 0@9");
        hops(y, 0, "0@10");
        ContactWays z = Check.planned("n3;c0 1 0 30 1 0;c2 0 0 9 1 9;");
        z.sends(0, 1, 10, 99, 0);
        check.due("the tick behind it", z.sends(2, 1, 1, 99, 2), 11);
        hops(z, 1, "1@0 0@10");
        hops(z, 0, "0@0");
        ContactWays v = Check.planned("n3;c0 1 0 30 1 0;c2 0 0 9 1 2;");
        v.sends(2, 1, 1, 99, 0);
        hops(v, 0, "1@0 0@3");
        check.due("the ticks before it", v.sends(0, 1, 3, 99, 2), 3);
        hops(v, 0, "1@0 0@3");
        v.undo();
        check.due("and one of it", v.sends(0, 1, 4, 99, 2), 4);
        hops(v, 0, "1@0 0@4");
    }

    private static void promise6NeighboursPushNothingOut() {
        check.about("promise 6: hops side by side share no tick");
        // 1 stands behind the place of 0, and would be planned to it if it were pushed out
        ContactWays x = Check.planned("n3;c0 1 0 20 1 0;c2 0 0 9 1 3;c2 0 0 9 1 7;");
        x.sends(0, 1, 5, 99, 0);
        x.sends(0, 1, 3, 99, 0);
        x.drops(0);
        hops(x, 1, "0@5");
        check.due("the tick before it", x.sends(2, 1, 1, 99, 2), 5);
        hops(x, 1, "0@5");
        x.undo();
        x.misses(1);
        check.due("the tick behind it", x.sends(2, 1, 1, 99, 2), 9);
        hops(x, 1, "0@5");
        check.due("ticks before it", x.sends(0, 1, 1, 99, 2), 1);
        hops(x, 1, "0@5");
        check.due("its first tick and those before it", x.sends(0, 1, 5, 99, 2), 6);
        hops(x, 1, "0@9");
    }

    private static void promise6PushedOutGivesUpAllHopsToCome() {
        check.about("promise 6: they 'give up all their hops to come'");
        ContactWays x = Check.planned("n3;c0 1 0 9 1 0;c1 2 0 9 1 0;");
        check.due("sends", x.sends(0, 2, 4, 99, 0), 8);
        check.due("the second hop is taken", x.sends(1, 2, 5, 99, 1), 5);
        hops(x, 0, "0@0 1@5");
        check.due("and there is no other", x.sends(1, 2, 4, 99, 1), 9);
        hops(x, 0, "");
        stands(x, 0, WAITS);
        check.due("the first one is free", x.tick(0, 0), Check.NONE);
        ContactWays y = Check.planned("n3;c0 1 0 9 1 0;c1 2 0 9 1 0;");
        y.sends(0, 2, 4, 99, 0);
        y.passes(1);
        check.due("the second hop is taken", y.sends(1, 2, 8, 99, 1), 9);
        hops(y, 0, "0@0");
        stands(y, 0, WAITS);
        check.due("the first one goes on", y.tick(0, 1), 0);
    }

    private static void promise6PlannedWithAHopOnItsWay() {
        check.about("promise 6: 'from the node to which this leads, when the bundle is there'");
        String plan = "n4;c0 1 0 5 1 4;c1 2 0 30 1 0;c3 1 0 9 1 6;";
        ContactWays x = Check.planned(plan);
        check.due("low", x.sends(0, 2, 3, 99, 0), 10);
        hops(x, 0, "0@0 1@7");
        x.passes(1);
        check.due("high takes tick 8", x.sends(3, 2, 1, 99, 1), 9);
        hops(x, 0, "0@0 1@9");
        check.due("bundle(0, 2)", x.bundle(0, 2), 12);
        ContactWays y = Check.planned(plan);
        check.due("low", y.sends(0, 2, 3, 11, 0), 10);
        y.passes(1);
        check.due("high takes tick 8", y.sends(3, 2, 1, 99, 1), 9);
        hops(y, 0, "0@0");
        stands(y, 0, WAITS);
        check.due("tick 12 is too late", y.bundle(0, 8), 1);
        check.due("it still is at", y.bundle(0, 1), 0);
        ContactWays z = Check.planned(plan);
        check.due("low", z.sends(0, 2, 3, 12, 0), 10);
        z.passes(1);
        check.due("high takes tick 8", z.sends(3, 2, 1, 99, 1), 9);
        hops(z, 0, "0@0 1@9");
    }

    private static void promise6PushesOutLowerPrioritiesAlone() {
        check.about("promise 6: 'the bundles with a lower priority'");
        ContactWays x = Check.planned("c0 1 0 9 1 0;");
        x.sends(0, 1, 9, 99, 1);
        check.due("the same", x.sends(0, 1, 1, 99, 1), Check.NONE);
        check.due("a lower one", x.sends(0, 1, 1, 99, 0), Check.NONE);
        hops(x, 0, "0@0");
        check.due("a higher one", x.sends(0, 1, 1, 99, 2), 1);
        hops(x, 0, "");
        hops(x, 1, "");
        stands(x, 0, WAITS);
        check.due("those that wait are not planned then", x.count(4), 3);
    }

    private static void promise6HighestPriorityFirst() {
        check.about("promise 6: 'the bundle with the highest priority'");
        ContactWays x = Check.planned("n3;c0 1 0 8 1 0;c2 0 0 9 1 1;c0 1 20 24 1 0;");
        x.sends(0, 1, 4, 8, 0);
        check.due("1 of priority 1", x.sends(0, 1, 4, 99, 1), 4);
        check.due("0 of priority 0", x.bundle(0, 2), 8);
        check.due("2 of priority 2", x.sends(2, 1, 2, 99, 2), 5);
        hops(x, 2, "1@0 0@3");
        hops(x, 1, "2@20");
        hops(x, 0, "");
        // before 1 is planned there would still be a way that is too late
        check.due("bundle(0, 8)", x.bundle(0, 8), 0);
    }

    private static void promise6LeastNumberFirst() {
        check.about("promise 6: 'of several the one with the least number'");
        ContactWays x = Check.planned("c0 1 0 10 1 0;c0 1 30 40 1 0;");
        x.sends(0, 1, 3, 99, 0);
        x.sends(0, 1, 3, 99, 0);
        x.sends(0, 1, 3, 99, 0);
        check.due("all are pushed out", x.sends(0, 1, 7, 99, 1), 7);
        hops(x, 0, "0@7");
        hops(x, 1, "1@30");
        hops(x, 2, "1@33");
    }

    private static void promise6PushedOutAreAddedToTheSet() {
        check.about("promise 6: 'the bundles that it pushes out are added to the set'");
        ContactWays x = Check.planned("c0 1 0 20 1 0;");
        x.sends(0, 1, 3, 99, 0);
        x.sends(0, 1, 3, 99, 1);
        hops(x, 0, "0@3");
        check.due("2 pushes out 1, and 1 then 0", x.sends(0, 1, 3, 99, 2), 3);
        hops(x, 1, "0@3");
        hops(x, 0, "0@6");
    }

    private static void promise6AtItsGoalAsSoonAsItsHopHasArrived() {
        check.about("promise 6: 'it needs no more hops'");
        // 0 loses its last hop with the next contact; its hop on its way leads to its goal
        ContactWays x = Check.planned("n3;c0 1 0 9 1 5;c1 2 0 30 1 0;");
        check.due("sends", x.sends(0, 1, 2, 99, 0), 7);
        x.passes(1);
        check.due("misses(1)", x.misses(1), 0);
        hops(x, 0, "0@0");
        stands(x, 0, BOOKED);
        check.due("bundle(0, 2)", x.bundle(0, 2), 7);
        check.due("finds(1)", x.finds(1), 0);
        hops(x, 0, "0@0");
    }

    private static void promise12Bundles() {
        check.about("promise 12: 'BAD if there is no such bundle'");
        new Twins(check, Twins::busy).refuseOutside("bundle", 0, 6, (x, v) -> x.bundle(v, 0));
        new Twins(check, Twins::full).refuseOutside("bundle", 0, 7, (x, v) -> x.bundle(v, 8));
        new Twins(check, ContactWays::new).refuseOutside("bundle", 0, -1, (x, v) -> x.bundle(v, 0));
        check.due("bundle(7, 5)", Twins.full().bundle(7, 5), 1);
        check.due("bundle(6, 5)", Twins.busy().bundle(6, 5), 6);
    }

    private static void promise12What() {
        check.about("promise 12: 'BAD if ... what is not 0 to 8'");
        Twins busy = new Twins(check, Twins::busy);
        busy.refuseOutside("what", 0, 8, (x, v) -> x.bundle(0, v));
        for (int what = 0; what <= 8; what++) {
            int asked = what;
            busy.changesNothing("bundle(6, " + what + ")", x -> x.bundle(6, asked));
        }
        int[] due = {BOOKED, 1, 12, 1, 1, 6, 50, 2, Check.NONE};
        for (int what = 0; what <= 8; what++) {
            check.due("bundle(6, " + what + ")", Twins.busy().bundle(6, what), due[what]);
        }
    }

    private static void promise12LateIfNowIsGreater() {
        check.about("promise 12: 'late, if now is greater than its deadline'");
        ContactWays x = Check.planned(WIDE);
        x.sends(1, 0, 1, 10, 0);
        x.sends(1, 0, 1, 99, 0);
        x.sends(1, 0, 1, 0, 0);
        stands(x, 2, WAITS);
        x.passes(1);
        stands(x, 2, LATE);
        x.passes(9);
        stands(x, 0, WAITS);
        check.due("bundle(0, 8)", x.bundle(0, 8), 0);
        x.passes(1);
        stands(x, 0, LATE);
        check.due("bundle(0, 8)", x.bundle(0, 8), Check.NONE);
        x.passes(88);
        stands(x, 1, WAITS);
        check.due("count(4)", x.count(4), 1);
    }

    private static void promise12TheFirstThatApplies() {
        check.about("promise 12: 'by the first that applies'");
        ContactWays x = Check.planned("n3;c0 1 0 9 1 4;");
        x.sends(0, 1, 1, 5, 0);
        x.sends(0, 1, 1, 6, 0);
        x.sends(1, 0, 1, 6, 0);
        x.drops(2);
        stands(x, 2, DROPPED);
        x.passes(2);
        x.drops(0);
        stands(x, 0, DROPPED);
        hops(x, 0, "0@0");
        x.passes(3);
        stands(x, 0, THROUGH);
        stands(x, 1, BOOKED);
        x.passes(1);
        stands(x, 0, THROUGH);
        stands(x, 1, THROUGH);
        stands(x, 2, DROPPED);
        x.passes(1);
        check.about("promise 12: through and dropped come before late");
        stands(x, 0, THROUGH);
        stands(x, 1, THROUGH);
        stands(x, 2, DROPPED);
    }

    private static void promise12Node() {
        check.about("promise 12: 'as being at the node from which this hop leads, until it is at the other node'");
        ContactWays x = Check.planned("n4;c2 3 0 9 1 4;c3 1 20 30 1 0;");
        check.due("sends", x.sends(2, 1, 3, 99, 0), 23);
        int[] at = {2, 2, 2, 2, 2, 2, 2, 3, 3};
        for (int now = 0; now < at.length; now++) {
            check.due("node in tick " + now, x.bundle(0, 1), at[now]);
            x.passes(1);
        }
        x.passes(20 - at.length);
        check.due("node in tick 20", x.bundle(0, 1), 3);
        x.passes(2);
        check.due("node in tick 22", x.bundle(0, 1), 3);
        x.passes(1);
        check.due("node in tick 23", x.bundle(0, 1), 1);
    }

    private static void promise12LastTick() {
        check.about("promise 12: 'the node to which its last hop leads (NONE if it has no hops)'");
        ContactWays x = Check.planned("n3;c0 1 0 9 1 4;c1 2 20 30 1 0;");
        check.due("sends", x.sends(0, 2, 3, 99, 0), 23);
        check.due("two hops", x.bundle(0, 2), 23);
        x.passes(1);
        x.misses(1);
        check.due("one hop, and not to its goal", x.bundle(0, 2), 7);
        stands(x, 0, WAITS);
        x.passes(5);
        check.due("one tick before", x.bundle(0, 2), 7);
        x.passes(1);
        check.due("no hops", x.bundle(0, 2), Check.NONE);
    }

    private static void promise12NumberOfHops() {
        check.about("promise 12: 'the number of its hops (the one on its way and those to come)'");
        ContactWays x = Check.planned("n6;c0 1 0 99 1 1;c1 2 0 99 1 1;c2 3 0 99 1 1;c3 4 0 99 1 1;c4 5 0 99 1 1;");
        check.due("sends", x.sends(0, 5, 1, 99, 0), 10);
        int[] hops = {5, 5, 4, 4, 3, 3, 2, 2, 1, 1, 0};
        for (int now = 0; now < hops.length; now++) {
            check.due("hops in tick " + now, x.bundle(0, 3), hops[now]);
            x.passes(1);
        }
    }

    private static void promise12WhyItWaits() {
        check.about("promise 12: '0 if there was no way when it was planned last, 1 if the best way was too late'");
        ContactWays x = Check.planned("c0 1 0 5 1 0;c0 1 9 20 1 0;");
        check.due("the way is a tick too late", x.sends(0, 1, 5, 4, 0), Check.NONE);
        check.due("bundle(0, 8)", x.bundle(0, 8), 1);
        check.due("no way", x.sends(0, 1, 12, 99, 0), Check.NONE);
        check.due("bundle(1, 8)", x.bundle(1, 8), 0);
        check.due("booked", x.sends(0, 1, 5, 5, 0), 5);
        check.due("bundle(2, 8)", x.bundle(2, 8), Check.NONE);
        x.misses(0);
        check.due("what is left is too late", x.bundle(2, 8), 1);
        x.misses(1);
        check.due("it was not planned again", x.bundle(2, 8), 1);
        x.finds(1);
        check.due("it was planned again", x.bundle(2, 8), 1);
        check.due("and so was the first one", x.bundle(0, 8), 1);
        x.misses(1);
        x.passes(1);
        x.finds(0);
        check.due("too few ticks are left", x.bundle(2, 8), 0);
        check.due("for the first one, too", x.bundle(0, 8), 0);
    }

    private static void promise13Bundles() {
        check.about("promise 13: 'BAD if there is no such bundle'");
        new Twins(check, Twins::busy).refuseOutside("bundle", 0, 6, (x, v) -> x.hop(v, 0, 0));
        new Twins(check, Twins::full).refuseOutside("bundle", 0, 7, (x, v) -> x.hop(v, 0, 1));
        new Twins(check, ContactWays::new).refuse("hop(0, 0, 0)", Check.BAD, x -> x.hop(0, 0, 0));
        check.due("hop(7, 1, 1)", Twins.full().hop(7, 1, 1), 9);
        check.due("hop(6, 0, 1)", Twins.busy().hop(6, 0, 1), 6);
    }

    private static void promise13Index() {
        check.about("promise 13: 'BAD if ... k is negative', 'NONE if there is no such hop'");
        Twins full = new Twins(check, Twins::full);
        for (int k : new int[] {-1, -2, -32, -256, Integer.MIN_VALUE, Integer.MIN_VALUE + 1}) {
            full.refuse("hop(7, " + k + ", 0)", Check.BAD, x -> x.hop(7, k, 0));
            full.refuse("hop(0, " + k + ", 0)", Check.BAD, x -> x.hop(0, k, 0));
        }
        for (int k : new int[] {2, 3, 5, 6, 7, 8, 32, 256, 65536, 1 << 29, 1 << 30, Integer.MAX_VALUE}) {
            for (int what = 0; what <= 1; what++) {
                int asked = what;
                full.refuse("hop(7, " + k + ", " + what + ")", Check.NONE, x -> x.hop(7, k, asked));
            }
        }
        ContactWays x = Twins.full();
        check.due("hop(7, 0, 0)", x.hop(7, 0, 0), 0);
        check.due("hop(7, 1, 0)", x.hop(7, 1, 0), 1);
        check.due("hop(7, 1, 1)", x.hop(7, 1, 1), 9);
        check.due("no hops", x.hop(0, 0, 0), Check.NONE);
        full.changesNothing("hop(7, 1, 0)", y -> y.hop(7, 1, 0));
    }

    private static void promise13What() {
        check.about("promise 13: 'BAD if ... what is not 0 or 1'");
        Twins busy = new Twins(check, Twins::busy);
        busy.refuseOutside("what", 0, 1, (x, v) -> x.hop(6, 0, v));
        check.due("hop(6, 0, 0)", Twins.busy().hop(6, 0, 0), 1);
        check.due("hop(6, 0, 1)", Twins.busy().hop(6, 0, 1), 6);
    }

    private static void promise13BadComesBeforeNone() {
        check.about("promise 13: BAD comes before NONE");
        Twins busy = new Twins(check, Twins::busy);
        busy.refuseOutside("what", 0, 1, (x, v) -> x.hop(6, 9, v));
        busy.refuseOutside("what", 0, 1, (x, v) -> x.hop(0, 0, v));
        busy.refuseOutside("bundle", 0, 6, (x, v) -> x.hop(v, 9, 0));
    }

    private static void promise13TheOneOnItsWayFirst() {
        check.about("promise 13: 'the one on its way first, if there is one'");
        ContactWays x = Check.planned("n3;c0 1 0 9 1 2;c1 2 0 30 1 0;");
        check.due("sends", x.sends(0, 2, 2, 99, 0), 6);
        String[] due = {"0@0 1@4", "0@0 1@4", "0@0 1@4", "0@0 1@4", "1@4", "1@4", ""};
        for (int now = 0; now < due.length; now++) {
            hops(x, 0, due[now]);
            x.passes(1);
        }
    }

    private static void promise13SixHops() {
        check.about("promise 13: a hop on its way and a way of five contacts are six hops");
        ContactWays x = Check.planned("n6;c0 1 0 9 1 0;c1 5 0 9 1 0;c1 0 0 90 1 0;c0 2 4 90 1 0;"
                + "c2 3 0 90 1 0;c3 4 0 90 1 0;c4 5 0 90 1 0;");
        check.due("sends", x.sends(0, 5, 2, 99, 0), 4);
        x.passes(1);
        check.due("misses(1)", x.misses(1), 0);
        hops(x, 0, "0@0 2@2 3@4 4@6 5@8 6@10");
        check.due("bundle(0, 3)", x.bundle(0, 3), 6);
        check.due("hop(0, 5, 0)", x.hop(0, 5, 0), 6);
        check.due("hop(0, 5, 1)", x.hop(0, 5, 1), 10);
        check.due("hop(0, 6, 0)", x.hop(0, 6, 0), Check.NONE);
        check.due("tick(6, 11)", x.tick(6, 11), 0);
        check.due("bundle(0, 2)", x.bundle(0, 2), 12);
        x.keep(0);
        x.passes(11);
        stands(x, 0, THROUGH);
        x.undo();
        hops(x, 0, "0@0 2@2 3@4 4@6 5@8 6@10");
        x.back(0);
        hops(x, 0, "0@0 2@2 3@4 4@6 5@8 6@10");
    }

    private static void promise14Contacts() {
        check.about("promise 14: 'BAD if there is no such contact'");
        new Twins(check, Twins::busy).refuseOutside("contact", 0, 3, (x, v) -> x.tick(v, 50));
        new Twins(check, ContactWays::new).refuse("tick(0, 0)", Check.BAD, x -> x.tick(0, 0));
        ContactWays x = Check.planned(WIDE.repeat(7) + "c1 0 2 5 1 0;");
        x.sends(1, 0, 1, 99, 0);
        check.due("tick(7, 2)", x.tick(7, 2), 0);
        check.due("tick(8, 2)", x.tick(8, 2), Check.BAD);
        check.due("tick(-1, 2)", x.tick(-1, 2), Check.BAD);
    }

    private static void promise14NowTo99() {
        check.about("promise 14: 'the tick, now to 99'");
        new Twins(check, Twins::busy).refuseOutside("tick", 5, 99, (x, v) -> x.tick(1, v));
        ContactWays x = Check.planned(WIDE);
        x.sends(0, 1, 20, 99, 0);
        for (int now = 0; now < 20; now++) {
            check.due("tick(0, now)", x.tick(0, now), 0);
            check.due("tick(0, now - 1)", x.tick(0, now - 1), Check.BAD);
            check.due("tick(0, 99)", x.tick(0, 99), Check.NONE);
            check.due("tick(0, 100)", x.tick(0, 100), Check.BAD);
            x.passes(1);
        }
        x.passes(79);
        check.due("now", x.count(3), 99);
        check.due("tick(0, 99)", x.tick(0, 99), Check.NONE);
        check.due("tick(0, 98)", x.tick(0, 98), Check.BAD);
        check.due("tick(0, 100)", x.tick(0, 100), Check.BAD);
    }

    private static void promise14FirstAndLastTick() {
        check.about("promise 14: 'the bundle whose hop takes a tick'");
        ContactWays x = Check.planned("c0 1 3 40 2 5;c0 1 0 40 1 0;");
        x.misses(1);
        x.sends(0, 1, 5, 99, 0);
        x.sends(0, 1, 1, 99, 0);
        x.finds(1);
        int[] due = {Check.NONE, Check.NONE, Check.NONE, 0, 0, 0, 1, Check.NONE, Check.NONE};
        for (int t = 0; t < due.length; t++) {
            check.due("tick(0, " + t + ")", x.tick(0, t), due[t]);
            check.due("tick(1, " + t + ")", x.tick(1, t), Check.NONE);
        }
    }

    private static void promise14HopOnItsWay() {
        check.about("promise 14: a hop on its way takes its ticks, and none in its light time");
        ContactWays x = Check.planned("c0 1 0 40 1 9;");
        x.sends(0, 1, 3, 99, 0);
        x.passes(1);
        x.drops(0);
        check.due("tick(0, 1)", x.tick(0, 1), 0);
        check.due("tick(0, 2)", x.tick(0, 2), 0);
        check.due("tick(0, 3)", x.tick(0, 3), Check.NONE);
        x.passes(1);
        check.due("tick(0, 2)", x.tick(0, 2), 0);
        check.due("another one in its light time", x.sends(0, 1, 1, 99, 0), 13);
        check.due("tick(0, 3)", x.tick(0, 3), 1);
    }

    private static void promise14BadComesBeforeNone() {
        check.about("promise 14: 'NONE if no hop takes it', and BAD comes before NONE");
        ContactWays x = Check.planned("c0 1 10 20 1 0;");
        check.due("in the window", x.tick(0, 10), Check.NONE);
        check.due("outside of it", x.tick(0, 9), Check.NONE);
        check.due("outside of it", x.tick(0, 20), Check.NONE);
        Twins busy = new Twins(check, Twins::busy);
        busy.refuse("tick(0, 99)", Check.NONE, y -> y.tick(0, 99));
        busy.refuse("tick(2, 30) of a missed contact", Check.NONE, y -> y.tick(2, 30));
        busy.changesNothing("tick(1, 6)", y -> y.tick(1, 6));
    }
}
