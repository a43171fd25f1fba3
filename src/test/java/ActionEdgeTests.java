/** The boundary cases of actions and of promises 7 to 11, a test for each sentence. */
public final class ActionEdgeTests {
    private static final Check check = new Check();
    private static final int WAITS = 0, BOOKED = 1, THROUGH = 2, LATE = 3, DROPPED = 4;
    private static final String WIDE = "c0 1 0 99 1 0;";

    public static void main(String[] args) {
        promise7Bundles();
        promise7StateIfThrough();
        promise7StateIfDropped();
        promise7StateIfLate();
        promise7HopsToComeAreGivenUp();
        promise7HopOnItsWayGoesOn();
        promise7NobodyIsPlanned();
        promise7IsAnAction();
        promise8Ticks();
        promise8StateIfGreaterThan99();
        promise8BadComesBeforeState();
        promise8NowIncreasesByTicks();
        promise8AllHopsOfAJump();
        promise8IsAnAction();
        promise9Contacts();
        promise9StateIfMissedAlready();
        promise9HopsToCome();
        promise9TickThatIsNowOrLater();
        promise9AtTheNodeFromWhichItLeads();
        promise9OtherContactsKeepTheirs();
        promise9GivesUpAllHopsToCome();
        promise9PlannedWithAHopOnItsWay();
        promise9ExceptThoseDropped();
        promise9HighestPriorityFirst();
        promise9NumberOfThoseThatWait();
        promise9IsAnAction();
        promise10Contacts();
        promise10StateIfNotMissed();
        promise10AllThatWait();
        promise10PlannedWithAHopOnItsWay();
        promise10ThoseThatWaitAlone();
        promise10HighestPriorityFirst();
        promise10NumberOfThoseThatWait();
        promise10IsAnAction();
        promise11StateIfThereIsNone();
        promise11HowManyMore();
        promise11TheLatestEight();
        promise11EachOfTheEight();
        promise11ErrorsAreNotKept();
        promise11NoneIsNoError();
        promise11UndoIsNoAction();
        promise11BehindAPlan();
        promise11AtTheLimitOfBundles();
        promise11NothingIsLeftOfWhatIsUndone();
        check.close();
    }

    private static void stands(ContactWays x, int b, int how) {
        check.due("bundle(" + b + ", 0)", x.bundle(b, 0), how);
    }

    private static void hops(ContactWays x, int b, String want) {
        check.due("hops of " + b, Check.hops(x, b), want);
    }

    private static void promise7Bundles() {
        check.about("promise 7: 'BAD if there is no such bundle'");
        new Twins(check, Twins::busy).refuseOutside("drops", 0, 6, (x, v) -> x.drops(v));
        new Twins(check, Twins::full).refuseOutside("drops", 0, 7, (x, v) -> x.drops(v));
        new Twins(check, ContactWays::new).refuse("drops(0)", Check.BAD, x -> x.drops(0));
        check.due("drops(7)", Twins.full().drops(7), 1);
        check.due("drops(6)", Twins.busy().drops(6), 1);
        ContactWays x = Check.planned(WIDE);
        x.sends(0, 1, 1, 99, 0);
        check.due("drops(0)", x.drops(0), 1);
    }

    private static void promise7StateIfThrough() {
        check.about("promise 7: 'STATE if it is through'");
        Twins busy = new Twins(check, Twins::busy);
        busy.refuse("sent at its goal", Check.STATE, x -> x.drops(0));
        Twins arrived = new Twins(check, () -> {
            ContactWays x = Check.planned(WIDE);
            x.sends(0, 1, 3, 99, 0);
            x.passes(3);
            return x;
        });
        arrived.refuse("in the tick in which it is there", Check.STATE, x -> x.drops(0));
        ContactWays y = Check.planned(WIDE);
        y.sends(0, 1, 3, 99, 0);
        y.passes(2);
        check.due("one tick before", y.drops(0), 1);
    }

    private static void promise7StateIfDropped() {
        check.about("promise 7: 'STATE if it is ... dropped'");
        new Twins(check, Twins::busy).refuse("again", Check.STATE, x -> x.drops(4));
        Twins onItsWay = new Twins(check, () -> {
            ContactWays x = Check.planned(WIDE);
            x.sends(0, 1, 3, 99, 0);
            x.passes(1);
            x.drops(0);
            return x;
        });
        onItsWay.refuse("again, on its way", Check.STATE, x -> x.drops(0));
    }

    private static ContactWays waiting(int deadline, int ticks) {
        ContactWays x = Check.planned(WIDE);
        x.sends(1, 0, 3, deadline, 0);
        x.passes(ticks);
        return x;
    }

    private static void promise7StateIfLate() {
        check.about("promise 7: 'STATE if it is ... late'");
        new Twins(check, Twins::busy).refuse("late", Check.STATE, x -> x.drops(3));
        new Twins(check, () -> waiting(9, 10)).refuse("one tick late", Check.STATE, x -> x.drops(0));
        new Twins(check, () -> waiting(98, 99)).refuse("late at 99", Check.STATE, x -> x.drops(0));
        check.due("in the tick of its deadline", waiting(9, 9).drops(0), 1);
        check.due("with deadline 99 at 99", waiting(99, 99).drops(0), 1);
    }

    private static void promise7HopsToComeAreGivenUp() {
        check.about("promise 7: 'its hops to come are given up'");
        ContactWays x = Check.planned("n3;c0 1 0 9 1 0;c1 2 0 9 1 0;");
        x.sends(0, 2, 2, 99, 0);
        check.due("it begins now", x.drops(0), 1);
        hops(x, 0, "");
        stands(x, 0, DROPPED);
        check.due("its first tick is free", x.tick(0, 0), Check.NONE);
        check.due("and those of its second hop", x.tick(1, 2), Check.NONE);
        check.due("for others", x.sends(0, 2, 2, 99, 0), 4);
    }

    private static void promise7HopOnItsWayGoesOn() {
        check.about("promise 7: 'a hop on its way goes on'");
        ContactWays x = Check.planned("n3;c0 1 0 9 1 3;c1 2 0 9 1 0;");
        x.sends(0, 2, 2, 99, 0);
        hops(x, 0, "0@0 1@5");
        x.passes(1);
        check.due("drops", x.drops(0), 1);
        hops(x, 0, "0@0");
        check.due("it takes its ticks", x.tick(0, 1), 0);
        check.due("bundle(0, 2)", x.bundle(0, 2), 5);
        x.passes(3);
        check.due("node", x.bundle(0, 1), 0);
        x.passes(1);
        check.due("node", x.bundle(0, 1), 1);
        stands(x, 0, DROPPED);
        ContactWays y = Check.planned(WIDE);
        y.sends(0, 1, 2, 99, 0);
        y.passes(1);
        y.drops(0);
        y.passes(1);
        stands(y, 0, THROUGH);
    }

    private static void promise7NobodyIsPlanned() {
        check.about("promise 7: drops() plans nobody");
        ContactWays x = Check.planned("c0 1 0 5 1 0;c0 1 30 40 1 0;");
        x.sends(0, 1, 5, 99, 0);
        x.sends(0, 1, 5, 99, 0);
        check.due("too late", x.sends(0, 1, 5, 20, 0), Check.NONE);
        check.due("drops(0)", x.drops(0), 1);
        hops(x, 1, "1@30");
        hops(x, 2, "");
        check.due("bundle(2, 8)", x.bundle(2, 8), 1);
    }

    private static void promise7IsAnAction() {
        check.about("promise 7: 'This is an action'");
        ContactWays x = Check.planned(WIDE);
        x.sends(0, 1, 5, 99, 0);
        String before = Check.state(x);
        x.drops(0);
        check.due("count(8)", x.count(8), 2);
        check.due("undo()", x.undo(), 1);
        check.due("state", Check.state(x), before);
    }

    private static void promise8Ticks() {
        check.about("promise 8: 'the number of ticks, 1 to 99'");
        new Twins(check, Twins::busy).refuseOutside("ticks", 1, 99, (x, v) -> x.passes(v));
        new Twins(check, ContactWays::new).refuseOutside("ticks", 1, 99, (x, v) -> x.passes(v));
        check.due("passes(1)", new ContactWays().passes(1), 1);
        check.due("passes(98)", new ContactWays().passes(98), 98);
        check.due("passes(99)", new ContactWays().passes(99), 99);
    }

    private static ContactWays at(int now) {
        ContactWays x = Twins.busy();
        if (now > 5) {
            x.passes(now - 5);
        }
        return x;
    }

    private static void promise8StateIfGreaterThan99() {
        check.about("promise 8: 'STATE if now would be greater than 99'");
        new Twins(check, Twins::busy).refuse("passes(95) at 5", Check.STATE, x -> x.passes(95));
        new Twins(check, Twins::busy).refuse("passes(99) at 5", Check.STATE, x -> x.passes(99));
        new Twins(check, () -> at(98)).refuse("passes(2) at 98", Check.STATE, x -> x.passes(2));
        new Twins(check, () -> at(99)).refuse("passes(1) at 99", Check.STATE, x -> x.passes(1));
        new Twins(check, () -> at(99)).refuse("passes(99) at 99", Check.STATE, x -> x.passes(99));
        check.due("passes(94) at 5", at(5).passes(94), 99);
        check.due("passes(1) at 98", at(98).passes(1), 99);
        for (int now = 1; now <= 98; now++) {
            ContactWays x = new ContactWays();
            x.passes(now);
            check.due("a tick too many at " + now, x.passes(100 - now), Check.STATE);
            check.due("count(3)", x.count(3), now);
            check.due("to 99 from " + now, x.passes(99 - now), 99);
        }
    }

    private static void promise8BadComesBeforeState() {
        check.about("promise 8: BAD comes before STATE");
        new Twins(check, () -> at(99)).refuseOutside("ticks at 99", 1, 99, (x, v) -> x.passes(v));
    }

    private static void promise8NowIncreasesByTicks() {
        check.about("promise 8: 'now increases by ticks'");
        ContactWays x = new ContactWays();
        for (int k = 1; k <= 13; k++) {
            check.due("passes(" + k + ")", x.passes(k), k * (k + 1) / 2);
            check.due("count(3)", x.count(3), k * (k + 1) / 2);
        }
    }

    private static void promise8AllHopsOfAJump() {
        check.about("promise 8: many hops in one call");
        ContactWays x = Check.planned("n6;c0 1 0 99 1 0;c1 2 0 99 1 0;c2 3 0 99 1 0;c3 4 0 99 1 0;c4 5 0 99 1 0;");
        check.due("sends", x.sends(0, 5, 1, 99, 0), 5);
        for (int ticks = 1; ticks <= 5; ticks++) {
            x.passes(ticks);
            check.due("node in tick " + ticks, x.bundle(0, 1), ticks);
            check.due("hops in tick " + ticks, x.bundle(0, 3), 5 - ticks);
            x.undo();
        }
        x.passes(99);
        check.due("node in tick 99", x.bundle(0, 1), 5);
        stands(x, 0, THROUGH);
    }

    private static void promise8IsAnAction() {
        check.about("promise 8: 'This is an action'");
        ContactWays x = Check.planned("c0 1 0 9 1 2;");
        x.sends(0, 1, 1, 3, 0);
        x.sends(1, 0, 1, 3, 0);
        String before = Check.state(x);
        x.passes(4);
        stands(x, 0, THROUGH);
        stands(x, 1, LATE);
        check.due("undo()", x.undo(), 2);
        check.due("state", Check.state(x), before);
        stands(x, 0, BOOKED);
        stands(x, 1, WAITS);
    }

    private static void promise9Contacts() {
        check.about("promise 9: 'BAD if there is no such contact'");
        new Twins(check, Twins::busy).refuseOutside("misses", 0, 3, (x, v) -> x.misses(v));
        new Twins(check, ContactWays::new).refuse("misses(0)", Check.BAD, x -> x.misses(0));
        ContactWays x = Check.planned(WIDE.repeat(8));
        check.due("misses(8)", x.misses(8), Check.BAD);
        check.due("misses(7)", x.misses(7), 0);
        check.due("contact(7, 6)", x.contact(7, 6), 1);
        check.due("misses(0)", x.misses(0), 0);
        check.due("contact(0, 6)", x.contact(0, 6), 1);
        for (int c = 1; c < 7; c++) {
            check.due("contact(" + c + ", 6)", x.contact(c, 6), 0);
        }
    }

    private static void promise9StateIfMissedAlready() {
        check.about("promise 9: 'STATE if it is missed already'");
        new Twins(check, Twins::busy).refuse("misses(2)", Check.STATE, x -> x.misses(2));
        ContactWays x = Twins.busy();
        check.due("finds(2)", x.finds(2) >= 0 ? 1 : 0, 1);
        check.due("misses(2)", x.misses(2) >= 0 ? 1 : 0, 1);
        check.due("misses(2) again", x.misses(2), Check.STATE);
    }

    private static void promise9HopsToCome() {
        check.about("promise 9: 'Hops to come on it are given up'");
        ContactWays x = Check.planned("c0 1 0 9 1 0;");
        x.sends(0, 1, 2, 99, 0);
        x.sends(0, 1, 2, 99, 0);
        check.due("one of them begins now", x.misses(0), 2);
        hops(x, 0, "");
        hops(x, 1, "");
        check.due("bundle(0, 8)", x.bundle(0, 8), 0);
        check.due("tick(0, 0)", x.tick(0, 0), Check.NONE);
    }

    private static void promise9TickThatIsNowOrLater() {
        check.about("promise 9: 'a hop on its way that takes a tick of it that is now or later'");
        for (int now = 0; now <= 6; now++) {
            ContactWays x = Check.planned("c0 1 0 9 1 4;c0 1 50 60 1 0;");
            x.sends(0, 1, 3, 99, 0);
            if (now > 0) {
                x.passes(now);
            }
            // its ticks are 0, 1 and 2
            check.due("misses(0) in tick " + now, x.misses(0), 0);
            hops(x, 0, now <= 2 ? "1@50" : "0@0");
            check.due("bundle(0, 2)", x.bundle(0, 2), now <= 2 ? 53 : 7);
        }
    }

    private static void promise9AtTheNodeFromWhichItLeads() {
        check.about("promise 9: 'its bundle is then at the node from which this hop leads'");
        ContactWays x = Check.planned("n4;c2 3 0 9 1 0;c3 1 0 20 1 0;c2 0 0 20 1 0;c0 1 0 20 1 0;");
        check.due("sends", x.sends(2, 1, 4, 99, 0), 8);
        x.passes(2);
        check.due("misses(0)", x.misses(0), 0);
        check.due("node", x.bundle(0, 1), 2);
        hops(x, 0, "2@2 3@6");
        check.due("bundle(0, 2)", x.bundle(0, 2), 10);
        x.passes(2);
        check.due("node when it would have been there", x.bundle(0, 1), 2);
    }

    private static void promise9OtherContactsKeepTheirs() {
        check.about("promise 9: 'Each bundle that lost a hop', and no other");
        ContactWays x = Check.planned("n3;c0 1 0 9 1 0;c0 2 0 9 1 0;c0 2 20 30 1 0;c0 2 0 5 1 0;");
        x.sends(0, 2, 5, 99, 0);
        x.sends(0, 1, 3, 99, 0);
        x.drops(0);
        x.sends(0, 2, 3, 99, 0);
        check.due("misses(0)", x.misses(0), 1);
        hops(x, 1, "");
        hops(x, 2, "1@0");
        x.undo();
        x.misses(3);
        check.due("a contact without hops", x.bundle(2, 2), 3);
        hops(x, 1, "0@0");
        ContactWays y = Check.planned("c0 1 0 5 1 0;c0 1 30 40 1 0;c1 0 0 9 1 0;");
        y.sends(0, 1, 5, 99, 0);
        y.sends(0, 1, 5, 99, 0);
        y.drops(0);
        check.due("misses(2)", y.misses(2), 0);
        hops(y, 1, "1@30");
    }

    private static void promise9GivesUpAllHopsToCome() {
        check.about("promise 9: 'gives up all its hops to come'");
        ContactWays x = Check.planned("n4;c0 1 0 9 1 2;c1 2 0 20 1 0;c2 3 0 20 1 0;");
        x.sends(0, 3, 2, 99, 0);
        hops(x, 0, "0@0 1@4 2@6");
        check.due("its last", x.misses(2), 1);
        hops(x, 0, "");
        x.undo();
        check.due("its second", x.misses(1), 1);
        hops(x, 0, "");
        x.undo();
        check.due("its first", x.misses(0), 1);
        hops(x, 0, "");
        x.undo();
        x.passes(1);
        check.due("its last, on its way", x.misses(2), 1);
        hops(x, 0, "0@0");
        x.undo();
        check.due("its first, on its way", x.misses(0), 1);
        hops(x, 0, "");
    }

    private static void promise9PlannedWithAHopOnItsWay() {
        check.about("promise 9: planned 'from the node to which this leads, when the bundle is there'");
        ContactWays x = Check.planned("n3;c0 1 0 5 1 4;c1 2 0 30 1 0;c1 2 0 30 1 1;c0 2 0 30 1 0;");
        x.misses(3);
        check.due("sends", x.sends(0, 2, 3, 99, 0), 10);
        x.finds(3);
        hops(x, 0, "0@0 1@7");
        x.passes(1);
        check.due("misses(1)", x.misses(1), 0);
        hops(x, 0, "0@0 2@7");
        check.due("bundle(0, 2)", x.bundle(0, 2), 11);
    }

    private static void promise9ExceptThoseDropped() {
        check.about("promise 9: 'except those that are through, dropped or late, is planned'");
        ContactWays x = Check.planned("c0 1 0 9 1 0;c0 1 0 99 1 0;");
        x.sends(0, 1, 5, 99, 0);
        x.passes(2);
        x.drops(0);
        check.due("misses(0)", x.misses(0), 0);
        hops(x, 0, "");
        stands(x, 0, DROPPED);
        check.due("node", x.bundle(0, 1), 0);
        check.due("tick(0, 3)", x.tick(0, 3), Check.NONE);
    }

    private static void promise9HighestPriorityFirst() {
        check.about("promise 9: 'the bundle with the highest priority, of several the one with the least number'");
        ContactWays x = Check.planned("n3;c0 1 0 30 1 0;c1 2 0 40 1 0;c0 1 0 30 1 0;");
        x.misses(0);
        x.sends(0, 2, 3, 99, 1);
        x.sends(0, 1, 3, 99, 2);
        x.finds(0);
        x.sends(1, 2, 3, 99, 0);
        x.sends(1, 2, 3, 99, 0);
        x.sends(1, 2, 3, 99, 0);
        x.drops(2);
        hops(x, 1, "2@0");
        hops(x, 0, "2@3 1@6");
        hops(x, 3, "1@3");
        // were 0 planned before 1, it would push out 3, which would then be planned anew
        check.due("misses(2)", x.misses(2), 0);
        hops(x, 1, "0@0");
        hops(x, 0, "0@3 1@6");
        hops(x, 3, "1@3");
        ContactWays y = Check.planned("c0 1 0 9 1 0;c0 1 0 9 1 0;");
        y.misses(0);
        y.sends(0, 1, 3, 99, 1);
        y.sends(0, 1, 3, 99, 1);
        y.finds(0);
        check.due("misses(1)", y.misses(1), 0);
        hops(y, 0, "0@0");
        hops(y, 1, "0@3");
    }

    private static void promise9NumberOfThoseThatWait() {
        check.about("promise 9: 'the number of bundles that wait then'");
        check.due("no bundles", Check.planned(WIDE).misses(0), 0);
        ContactWays x = Check.planned("c0 1 0 99 9 0;c0 1 50 58 1 0;");
        for (int b = 0; b < 8; b++) {
            x.sends(0, 1, 1, 99, 0);
        }
        check.due("all find room", x.misses(0), 0);
        check.due("all eight wait", x.misses(1), 8);
        ContactWays y = Check.planned("c0 1 0 99 9 0;c0 1 50 58 1 0;c1 0 0 9 1 0;");
        y.sends(0, 1, 1, 49, 0);
        y.sends(0, 1, 1, 99, 0);
        y.sends(1, 0, 10, 99, 0);
        y.sends(1, 1, 10, 99, 0);
        check.due("also those that lost nothing", y.misses(0), 2);
        y.passes(50);
        check.due("those that are late do not wait", y.misses(1), 2);
        y.passes(49);
        check.due("count(4)", y.count(4), 2);
        check.due("misses(2)", y.misses(2), 2);
    }

    private static void promise9IsAnAction() {
        check.about("promise 9: 'This is an action'");
        ContactWays x = Check.planned("c0 1 0 99 1 0;");
        x.sends(0, 1, 3, 99, 0);
        x.passes(1);
        String before = Check.state(x);
        x.misses(0);
        check.due("count(8)", x.count(8), 3);
        check.due("undo()", x.undo(), 2);
        check.due("state", Check.state(x), before);
    }

    private static void promise10Contacts() {
        check.about("promise 10: 'BAD if there is no such contact'");
        new Twins(check, Twins::busy).refuseOutside("finds", 0, 3, (x, v) -> x.finds(v));
        new Twins(check, ContactWays::new).refuse("finds(0)", Check.BAD, x -> x.finds(0));
        ContactWays x = Check.planned(WIDE.repeat(8));
        x.misses(7);
        x.misses(0);
        check.due("finds(8)", x.finds(8), Check.BAD);
        check.due("finds(7)", x.finds(7), 0);
        check.due("contact(0, 6)", x.contact(0, 6), 1);
        check.due("finds(0)", x.finds(0), 0);
        check.due("contact(0, 6)", x.contact(0, 6), 0);
        check.due("contact(7, 6)", x.contact(7, 6), 0);
    }

    private static void promise10StateIfNotMissed() {
        check.about("promise 10: 'STATE if it is not missed'");
        Twins busy = new Twins(check, Twins::busy);
        busy.refuse("finds(0)", Check.STATE, x -> x.finds(0));
        busy.refuse("finds(3)", Check.STATE, x -> x.finds(3));
        ContactWays x = Twins.busy();
        check.due("finds(2)", x.finds(2), 1);
        check.due("finds(2) again", x.finds(2), Check.STATE);
    }

    private static void promise10AllThatWait() {
        check.about("promise 10: 'The set of all bundles that wait is planned'");
        ContactWays x = Check.planned("c0 1 0 9 1 0;c0 1 0 3 1 0;c1 0 0 3 1 0;");
        x.misses(0);
        x.misses(2);
        x.sends(0, 1, 4, 99, 0);
        x.sends(1, 0, 2, 99, 0);
        x.sends(0, 1, 3, 99, 0);
        x.drops(2);
        x.sends(0, 1, 4, 99, 0);
        check.due("of no use to those that wait", x.finds(2), 2);
        hops(x, 1, "2@0");
        check.due("of use to one", x.finds(0), 0);
        hops(x, 0, "0@0");
        hops(x, 3, "0@4");
        // one that waits gets what became free before, by any contact
        ContactWays y = Check.planned("c0 1 0 9 1 0;c1 0 0 9 1 0;");
        y.misses(1);
        y.sends(0, 1, 9, 99, 0);
        y.sends(0, 1, 9, 99, 0);
        y.drops(0);
        stands(y, 1, WAITS);
        check.due("finds(1)", y.finds(1), 0);
        hops(y, 1, "0@0");
    }

    private static void promise10PlannedWithAHopOnItsWay() {
        check.about("promise 10: planned 'from the node to which this leads, when the bundle is there'");
        for (int now = 1; now <= 9; now++) {
            ContactWays x = Check.planned("n3;c0 1 0 5 1 4;c1 2 0 30 1 0;c0 2 0 30 1 0;");
            x.misses(2);
            check.due("sends", x.sends(0, 2, 3, 99, 0), 10);
            x.passes(1);
            check.due("misses(1)", x.misses(1), 1);
            hops(x, 0, "0@0");
            if (now > 1) {
                x.passes(now - 1);
            }
            check.due("finds(2) is of no use", x.finds(2), 1);
            hops(x, 0, now < 7 ? "0@0" : "");
            check.due("finds(1) at " + now, x.finds(1), 0);
            hops(x, 0, now < 7 ? "0@0 1@7" : "1@" + now);
        }
    }

    private static void promise10ThoseThatWaitAlone() {
        check.about("promise 10: bundles that do not wait are not planned");
        ContactWays x = Check.planned("c0 1 0 90 1 0;c0 1 50 60 1 0;");
        x.misses(0);
        x.sends(0, 1, 3, 99, 0);
        x.sends(0, 1, 3, 20, 0);
        x.sends(0, 1, 3, 30, 0);
        x.drops(2);
        x.passes(20);
        stands(x, 1, WAITS);
        check.due("in the tick of its deadline", x.finds(0), 1);
        check.due("its way is too late", x.bundle(1, 8), 1);
        x.undo();
        x.passes(1);
        stands(x, 1, LATE);
        check.due("behind its deadline", x.finds(0), 0);
        hops(x, 0, "1@50");
        hops(x, 1, "");
        hops(x, 2, "");
        stands(x, 2, DROPPED);
    }

    private static void promise10HighestPriorityFirst() {
        check.about("promise 10: 'the bundle with the highest priority, of several the one with the least number'");
        ContactWays x = Check.planned("n3;c0 1 0 20 1 0;c1 2 0 20 1 0;");
        x.misses(0);
        x.sends(0, 2, 3, 99, 1);
        x.sends(0, 1, 3, 99, 2);
        x.sends(1, 2, 3, 99, 0);
        x.sends(1, 2, 3, 99, 0);
        x.drops(2);
        hops(x, 3, "1@3");
        // were 0 planned before 1, it would push out 3, which would then be planned anew
        check.due("finds(0)", x.finds(0), 0);
        hops(x, 1, "0@0");
        hops(x, 0, "0@3 1@6");
        hops(x, 3, "1@3");
        ContactWays y = Check.planned("c0 1 0 9 1 0;");
        y.misses(0);
        y.sends(0, 1, 3, 99, 2);
        y.sends(0, 1, 3, 99, 2);
        y.finds(0);
        hops(y, 0, "0@0");
        hops(y, 1, "0@3");
    }

    private static void promise10NumberOfThoseThatWait() {
        check.about("promise 10: 'the number of bundles that wait then'");
        ContactWays x = Check.planned("c0 1 0 99 9 0;");
        x.misses(0);
        check.due("no bundles", x.finds(0), 0);
        x.misses(0);
        for (int b = 0; b < 8; b++) {
            x.sends(1 - b % 2, b % 2, 1, 99, 0);
        }
        check.due("count(4)", x.count(4), 8);
        check.due("half of them", x.finds(0), 4);
        ContactWays y = Check.planned("c0 1 0 99 9 0;");
        y.misses(0);
        for (int b = 0; b < 8; b++) {
            y.sends(1, 0, 1, 99, 0);
        }
        check.due("all eight", y.finds(0), 8);
    }

    private static void promise10IsAnAction() {
        check.about("promise 10: 'This is an action'");
        ContactWays x = Check.planned("c0 1 0 99 1 0;");
        x.misses(0);
        x.sends(0, 1, 3, 99, 0);
        String before = Check.state(x);
        x.finds(0);
        check.due("count(8)", x.count(8), 3);
        check.due("undo()", x.undo(), 2);
        check.due("state", Check.state(x), before);
    }

    private static void promise11StateIfThereIsNone() {
        check.about("promise 11: 'STATE if there is none'");
        new Twins(check, ContactWays::new).refuse("undo()", Check.STATE, x -> x.undo());
        Twins used = new Twins(check, () -> {
            ContactWays x = Twins.busy();
            for (int k = 0; k < 8; k++) {
                x.undo();
            }
            x.forget();
            x.sees(0, 1, 121);
            return x;
        });
        used.refuse("undo()", Check.STATE, x -> x.undo());
        new Twins(check, () -> {
            ContactWays x = Twins.full();
            x.keep(0);
            x.back(0);
            return x;
        }).refuse("undo() behind back()", Check.STATE, x -> x.undo());
    }

    private static void promise11HowManyMore() {
        check.about("promise 11: 'how many more can be undone'");
        for (int actions = 1; actions <= 12; actions++) {
            ContactWays x = new ContactWays();
            for (int k = 0; k < actions; k++) {
                x.passes(1);
            }
            int kept = Math.min(actions, 8);
            check.due("count(8)", x.count(8), kept);
            for (int more = kept - 1; more >= 0; more--) {
                check.due("undo()", x.undo(), more);
                check.due("count(8)", x.count(8), more);
                check.due("now", x.count(3), actions - (kept - more));
            }
            check.due("undo()", x.undo(), Check.STATE);
            check.due("now", x.count(3), actions - kept);
        }
    }

    private static void promise11TheLatestEight() {
        check.about("promise 11: 'the latest 8 of them'");
        ContactWays x = Check.planned(WIDE);
        x.sends(0, 1, 1, 99, 0);
        for (int k = 0; k < 7; k++) {
            x.passes(1);
        }
        ContactWays y = Check.planned(WIDE);
        y.sends(0, 1, 1, 99, 0);
        for (int k = 0; k < 8; k++) {
            y.passes(1);
        }
        for (int k = 7; k >= 0; k--) {
            check.due("undo()", x.undo(), k);
            check.due("undo()", y.undo(), k);
        }
        check.due("the eighth from the end is undone", x.count(2), 0);
        check.due("the ninth is not", y.count(2), 1);
    }

    /** A full object on which some actions have been done. */
    private static ContactWays acted(int actions) {
        ContactWays x = Twins.full();
        for (int k = 0; k < actions; k++) {
            int answer = act(x, k);
            check.due("action " + k + " is no error", answer >= 0 ? 0 : answer, 0);
        }
        return x;
    }

    private static void promise11EachOfTheEight() {
        check.about("promise 11: 'Restores the state before the latest action'");
        for (int k = 4; k < 12; k++) {
            ContactWays x = acted(12);
            for (int more = 7; more >= k - 4; more--) {
                check.due("undo()", x.undo(), more);
            }
            check.due("the state before action " + k, present(x), present(acted(k)));
        }
    }

    /** The state without how much can be undone. */
    private static String present(ContactWays x) {
        return Check.state(x).replaceFirst("undo \\d", "");
    }

    private static int act(ContactWays x, int k) {
        switch (k) {
            case 0: return x.finds(2);
            case 1: return x.misses(0);
            case 2: return x.misses(1);
            case 3: return x.drops(7);
            case 4: return x.passes(1);
            case 5: return x.finds(1);
            case 6: return x.finds(0);
            case 7: return x.misses(3);
            case 8: return x.passes(9);
            case 9: return x.drops(1);
            case 10: return x.finds(3);
            default: return x.passes(80);
        }
    }

    private static void promise11ErrorsAreNotKept() {
        check.about("promise 11: the actions 'that returned no error'");
        ContactWays x = Check.planned(WIDE);
        x.passes(1);
        for (int k = 0; k < 9; k++) {
            check.due("BAD", x.passes(0), Check.BAD);
            check.due("STATE", x.passes(99), Check.STATE);
            check.due("STATE", x.finds(0), Check.STATE);
            check.due("BAD", x.misses(1), Check.BAD);
            check.due("BAD", x.drops(0), Check.BAD);
            check.due("BAD", x.sends(0, 1, 0, 9, 0), Check.BAD);
        }
        check.due("count(8)", x.count(8), 1);
        check.due("undo()", x.undo(), 0);
        check.due("now", x.count(3), 0);
        for (int b = 0; b < 8; b++) {
            x.sends(0, 1, 1, 99, 0);
        }
        for (int k = 0; k < 9; k++) {
            check.due("FULL", x.sends(0, 1, 1, 99, 0), Check.FULL);
        }
        check.due("undo()", x.undo(), 7);
        check.due("count(2)", x.count(2), 7);
    }

    private static void promise11NoneIsNoError() {
        check.about("promise 11: NONE is no error");
        ContactWays x = Check.planned(WIDE);
        check.due("it waits", x.sends(1, 0, 1, 99, 0), Check.NONE);
        check.due("count(8)", x.count(8), 1);
        check.due("undo()", x.undo(), 0);
        check.due("count(2)", x.count(2), 0);
    }

    private static void promise11UndoIsNoAction() {
        check.about("promise 11: undo() is no action, and questions are none");
        ContactWays x = Twins.busy();
        check.due("undo()", x.undo(), 7);
        x.asks(0, 1, 1, 0);
        x.largest(0, 1, 0, 9);
        x.worst();
        x.unseen();
        x.keep(0);
        x.sees(0, 1, 1);
        x.forget();
        x.type('n');
        x.clear();
        check.due("count(8)", x.count(8), 7);
        x.passes(1);
        check.due("an action takes its place", x.count(8), 8);
        check.due("undo()", x.undo(), 7);
        check.due("undo()", x.undo(), 6);
    }

    private static void promise11BehindAPlan() {
        check.about("promise 11: plan() leaves nothing to undo, and one with a fault leaves all");
        ContactWays x = Twins.busy();
        Check.type(x, "c");
        check.due("plan()", x.plan() < -9 ? 1 : 0, 1);
        check.due("count(8)", x.count(8), 8);
        x.clear();
        check.due("plan()", x.plan(), 0);
        check.due("count(8)", x.count(8), 0);
        check.due("undo()", x.undo(), Check.STATE);
    }

    private static void promise11AtTheLimitOfBundles() {
        check.about("promise 11: all eight bundles are restored");
        String before = present(Twins.full());
        ContactWays x = Twins.full();
        x.misses(1);
        check.due("it changes much", present(x).equals(before) ? 1 : 0, 0);
        check.due("undo()", x.undo(), 7);
        check.due("state", present(x), before);
    }

    private static void promise11NothingIsLeftOfWhatIsUndone() {
        check.about("promise 11: what a bundle had goes with it");
        ContactWays x = Check.planned("c0 1 0 9 1 4;");
        check.due("booked", x.sends(0, 1, 3, 99, 1), 7);
        check.due("undo()", x.undo(), 0);
        check.due("late", late(x), Check.NONE);
        hops(x, 0, "");
        stands(x, 0, LATE);
        ContactWays y = Check.planned("c0 1 0 9 1 4;");
        y.sends(1, 0, 3, 99, 1);
        y.drops(0);
        y.undo();
        y.undo();
        check.due("not dropped", y.sends(0, 1, 3, 99, 1), 7);
        stands(y, 0, BOOKED);
        check.about("promise 11: why a bundle waits is restored");
        ContactWays z = Check.planned("c0 1 0 9 1 4;");
        check.due("no way", z.sends(1, 0, 3, 99, 1), Check.NONE);
        check.due("too late", z.sends(0, 1, 3, 6, 1), Check.NONE);
        z.misses(0);
        z.passes(1);
        z.finds(0);
        z.passes(1);
        for (int more = 5; more >= 2; more--) {
            check.due("undo()", z.undo(), more);
            check.due("bundle(0, 8)", z.bundle(0, 8), 0);
            check.due("bundle(1, 8)", z.bundle(1, 8), 1);
        }
        ContactWays v = Check.planned("c0 1 0 9 1 4;c0 1 30 40 1 0;");
        v.misses(0);
        v.misses(1);
        check.due("no way", v.sends(0, 1, 3, 20, 1), Check.NONE);
        check.due("bundle(0, 8)", v.bundle(0, 8), 0);
        v.finds(1);
        check.due("bundle(0, 8)", v.bundle(0, 8), 1);
        check.due("undo()", v.undo(), 3);
        check.due("bundle(0, 8)", v.bundle(0, 8), 0);
    }

    /** Sends a bundle that is late, in a later tick. */
    private static int late(ContactWays x) {
        x.passes(5);
        return x.sends(0, 1, 3, 4, 1);
    }
}
