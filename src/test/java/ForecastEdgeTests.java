/** The boundary cases of promises 15 to 20, a test for each sentence. */
public final class ForecastEdgeTests {
    private static final Check check = new Check();
    private static final String WIDE = "c0 1 0 99 1 0;";

    public static void main(String[] args) {
        promise15Arguments();
        promise15BadComesBeforeNone();
        promise15Sizes();
        promise15NowIfBothAreTheSame();
        promise15WhateverTheDeadline();
        promise15InAdditionToAllOthers();
        promise15NoneIfThereIsNoWay();
        promise15ChangesNothing();
        promise16Arguments();
        promise16BadComesBeforeNone();
        promise16NotAfterTheTick();
        promise16By0To120();
        promise16GreatestSize();
        promise16SizeOne();
        promise16BothNodesTheSame();
        promise16Priorities();
        promise16AlsoWithEightBundles();
        promise16ChangesNothing();
        promise17NoneThatIsNotMissed();
        promise17TheLeastOfSeveral();
        promise17NotTheMissedOnes();
        promise17TheGreatestNumber();
        promise17AllContacts();
        promise17OnlyThoseThatWaitCount();
        promise17ChangesNothing();
        promise18Nodes();
        promise18BothNodesTheSame();
        promise18Ticks();
        promise18SixObservations();
        promise18BadComesBeforeFull();
        promise18ChangesNothingElse();
        promise19HowManyThereWere();
        promise19RemovesAll();
        promise20NoObservations();
        promise20NoContacts();
        promise20NotTheMissedOnes();
        promise20AllObservationsAreTrue();
        promise20TrueToTheTick();
        promise20NoneIs121();
        promise20TrueNow();
        promise20SizeOneAndPriorityTwo();
        promise20HopsStayBooked();
        promise20SetOfEight();
        promise20ChangesNothing();
        check.close();
    }

    private static void promise15Arguments() {
        check.about("promise 15: 'BAD if there is no such node or an argument is out of range'");
        Twins full = new Twins(check, Twins::full);
        full.refuseOutside("node", 0, 3, (x, v) -> x.asks(v, 1, 1, 0));
        full.refuseOutside("goal", 0, 3, (x, v) -> x.asks(0, v, 1, 0));
        full.refuseOutside("size", 1, 20, (x, v) -> x.asks(0, 1, v, 0));
        full.refuseOutside("priority", 0, 2, (x, v) -> x.asks(0, 1, 1, v));
        full.refuse("the same wrong node", Check.BAD, x -> x.asks(4, 4, 1, 0));
        ContactWays x = Check.planned("n6;c5 0 0 99 1 0;c0 5 0 99 1 0;");
        check.due("from the last node", x.asks(5, 0, 1, 0), 1);
        check.due("to the last node", x.asks(0, 5, 20, 2), 20);
        check.due("from one more", x.asks(6, 0, 1, 0), Check.BAD);
        check.due("to one more", x.asks(0, 6, 1, 0), Check.BAD);
    }

    private static void promise15BadComesBeforeNone() {
        check.about("promise 15: BAD comes before NONE, and before an answer that is now");
        Twins busy = new Twins(check, Twins::busy);
        busy.refuse("no way", Check.NONE, x -> x.asks(2, 3, 1, 0));
        busy.refuseOutside("size without a way", 1, 20, (x, v) -> x.asks(2, 3, v, 0));
        busy.refuseOutside("priority without a way", 0, 2, (x, v) -> x.asks(2, 3, 1, v));
        busy.refuseOutside("size at the same node", 1, 20, (x, v) -> x.asks(2, 2, v, 0));
        busy.refuseOutside("priority at the same node", 0, 2, (x, v) -> x.asks(2, 2, 1, v));
    }

    private static void promise15Sizes() {
        check.about("promise 15: 'the size, 1 to 20'");
        ContactWays x = Check.planned(WIDE);
        for (int size = 1; size <= 20; size++) {
            check.due("size " + size, x.asks(0, 1, size, 0), size);
        }
        check.due("size 0", x.asks(0, 1, 0, 0), Check.BAD);
        check.due("size 21", x.asks(0, 1, 21, 0), Check.BAD);
    }

    private static void promise15NowIfBothAreTheSame() {
        check.about("promise 15: 'now, if both nodes are the same'");
        ContactWays x = Check.planned("n6;" + WIDE);
        for (int node = 0; node < 6; node++) {
            check.due("at 0", x.asks(node, node, 20, 0), 0);
        }
        x.passes(99);
        for (int node = 0; node < 6; node++) {
            check.due("at 99", x.asks(node, node, 1, 2), 99);
        }
    }

    private static void promise15WhateverTheDeadline() {
        check.about("promise 15: 'whatever the deadline'");
        for (int light = 0; light <= 9; light++) {
            ContactWays x = Check.planned("c0 1 98 99 1 " + light + ";");
            check.due("light time " + light, x.asks(0, 1, 1, 0), 99 + light);
        }
        ContactWays y = Check.planned("n3;c0 1 88 89 1 9;c1 2 98 99 1 9;");
        check.due("over two contacts", y.asks(0, 2, 1, 0), 108);
    }

    private static void promise15InAdditionToAllOthers() {
        check.about("promise 15: 'in addition to all others', also to eight");
        ContactWays x = Check.planned(WIDE);
        for (int b = 0; b < 8; b++) {
            check.due("asks", x.asks(0, 1, 2, 1), 2 * b + 2);
            check.due("sends", x.sends(0, 1, 2, 99, 1), 2 * b + 2);
        }
        check.due("behind all eight", x.asks(0, 1, 2, 1), 18);
        check.due("behind all eight", x.asks(0, 1, 2, 0), 18);
        check.due("before all eight", x.asks(0, 1, 2, 2), 2);
        x.passes(1);
        check.due("behind the one on its way", x.asks(0, 1, 2, 2), 4);
    }

    private static void promise15NoneIfThereIsNoWay() {
        check.about("promise 15: 'NONE if there is no way'");
        ContactWays x = Check.planned("n3;c0 1 3 8 2 0;");
        check.due("the longest", x.asks(0, 1, 10, 0), 8);
        check.due("one longer", x.asks(0, 1, 11, 0), Check.NONE);
        check.due("back", x.asks(1, 0, 1, 0), Check.NONE);
        check.due("to another node", x.asks(0, 2, 1, 0), Check.NONE);
        x.passes(7);
        check.due("in the last tick", x.asks(0, 1, 2, 0), 8);
        x.passes(1);
        check.due("behind it", x.asks(0, 1, 1, 0), Check.NONE);
        x.undo();
        x.misses(0);
        check.due("missed", x.asks(0, 1, 1, 0), Check.NONE);
    }

    private static void promise15ChangesNothing() {
        check.about("promise 15: 'Questions change nothing'");
        Twins busy = new Twins(check, Twins::busy);
        busy.changesNothing("asks(0, 2, 3, 2)", x -> x.asks(0, 2, 3, 2));
        busy.changesNothing("asks(3, 0, 1, 0)", x -> x.asks(3, 0, 1, 0));
        new Twins(check, Twins::full).changesNothing("asks(0, 1, 20, 2)", x -> x.asks(0, 1, 20, 2));
    }

    private static void promise16Arguments() {
        check.about("promise 16: 'BAD if there is no such node or an argument is out of range'");
        Twins full = new Twins(check, Twins::full);
        full.refuseOutside("node", 0, 3, (x, v) -> x.largest(v, 1, 0, 50));
        full.refuseOutside("goal", 0, 3, (x, v) -> x.largest(0, v, 0, 50));
        full.refuseOutside("priority", 0, 2, (x, v) -> x.largest(0, 1, v, 50));
        full.refuseOutside("by", 0, 120, (x, v) -> x.largest(0, 1, 0, v));
        full.refuse("the same wrong node", Check.BAD, x -> x.largest(4, 4, 0, 50));
        ContactWays x = Check.planned("n6;c5 0 0 99 1 0;c0 5 0 99 1 0;");
        check.due("from the last node", x.largest(5, 0, 0, 7), 7);
        check.due("to the last node", x.largest(0, 5, 2, 7), 7);
        check.due("from one more", x.largest(6, 0, 0, 7), Check.BAD);
        check.due("to one more", x.largest(0, 6, 0, 7), Check.BAD);
    }

    private static void promise16BadComesBeforeNone() {
        check.about("promise 16: BAD comes before NONE");
        Twins busy = new Twins(check, Twins::busy);
        busy.refuse("no way", Check.NONE, x -> x.largest(2, 3, 0, 120));
        busy.refuseOutside("priority without a way", 0, 2, (x, v) -> x.largest(2, 3, v, 50));
        busy.refuseOutside("by without a way", 0, 120, (x, v) -> x.largest(2, 3, 0, v));
        busy.refuseOutside("by at the same node", 0, 120, (x, v) -> x.largest(2, 2, 0, v));
        busy.refuse("the same node before now", Check.NONE, x -> x.largest(2, 2, 0, 4));
    }

    private static void promise16NotAfterTheTick() {
        check.about("promise 16: 'a tick that is not after a given one'");
        ContactWays x = Check.planned("c0 1 10 40 1 3;");
        check.due("by 13", x.largest(0, 1, 0, 13), Check.NONE);
        for (int size = 1; size <= 20; size++) {
            check.due("by " + (13 + size), x.largest(0, 1, 0, 13 + size), size);
        }
        check.due("by 34", x.largest(0, 1, 0, 34), 20);
    }

    private static void promise16By0To120() {
        check.about("promise 16: 'the tick, 0 to 120'");
        ContactWays x = Check.planned("c0 1 98 99 9 9;");
        check.due("by 0", x.largest(0, 1, 0, 0), Check.NONE);
        check.due("by 107", x.largest(0, 1, 0, 107), Check.NONE);
        check.due("by 108", x.largest(0, 1, 0, 108), 9);
        check.due("by 120", x.largest(0, 1, 0, 120), 9);
        check.due("by 121", x.largest(0, 1, 0, 121), Check.BAD);
        check.due("by -1", x.largest(0, 1, 0, -1), Check.BAD);
        check.due("by 0 at the same node", x.largest(0, 0, 0, 0), 20);
        check.due("by 121 at the same node", x.largest(0, 0, 0, 121), Check.BAD);
    }

    private static void promise16GreatestSize() {
        check.about("promise 16: 'the greatest size', 1 to 20");
        check.due("20 is the greatest", Check.planned("c0 1 0 99 9 0;").largest(0, 1, 0, 99), 20);
        for (int ticks = 1; ticks <= 22; ticks++) {
            ContactWays x = Check.planned("c0 1 0 " + ticks + " 1 0;");
            check.due(ticks + " ticks", x.largest(0, 1, 0, 120), Math.min(ticks, 20));
        }
        for (int rate = 1; rate <= 9; rate++) {
            ContactWays x = Check.planned("c0 1 5 7 " + rate + " 0;");
            check.due("rate " + rate, x.largest(0, 1, 0, 99), 2 * rate);
        }
        // the small ones go over 1, the great ones over 0
        ContactWays y = Check.planned("c0 1 8 10 9 0;c0 1 0 4 1 0;");
        check.due("by 3", y.largest(0, 1, 0, 3), 3);
        check.due("by 8", y.largest(0, 1, 0, 8), 4);
        check.due("by 9", y.largest(0, 1, 0, 9), 9);
        check.due("by 10", y.largest(0, 1, 0, 10), 18);
    }

    private static void promise16SizeOne() {
        check.about("promise 16: 'NONE if there is no such size'");
        ContactWays x = Check.planned("c0 1 4 5 1 0;");
        check.due("by 5", x.largest(0, 1, 0, 5), 1);
        check.due("by 4", x.largest(0, 1, 0, 4), Check.NONE);
        check.due("back", x.largest(1, 0, 0, 120), Check.NONE);
        x.sends(0, 1, 1, 99, 0);
        check.due("taken", x.largest(0, 1, 0, 120), Check.NONE);
    }

    private static void promise16BothNodesTheSame() {
        check.about("promise 16: asks() returns now, if both nodes are the same");
        ContactWays x = Check.planned(WIDE);
        x.passes(50);
        check.due("by 49", x.largest(1, 1, 0, 49), Check.NONE);
        check.due("by 50", x.largest(1, 1, 0, 50), 20);
        check.due("by 0", x.largest(1, 1, 0, 0), Check.NONE);
    }

    private static void promise16Priorities() {
        check.about("promise 16: 'the priority, 0 to 2'");
        ContactWays x = Check.planned("c0 1 0 10 1 0;");
        x.sends(0, 1, 4, 99, 1);
        int[] due = {6, 6, 10};
        for (int priority = 0; priority <= 2; priority++) {
            check.due("priority " + priority, x.largest(0, 1, priority, 10), due[priority]);
        }
    }

    private static void promise16AlsoWithEightBundles() {
        check.about("promise 16: 'such a bundle' would be in addition to all others, also to eight");
        ContactWays x = Check.planned("c0 1 0 18 1 0;");
        for (int b = 0; b < 8; b++) {
            x.sends(0, 1, 2, 99, 1);
        }
        check.due("priority 1", x.largest(0, 1, 1, 99), 2);
        check.due("priority 2", x.largest(0, 1, 2, 99), 18);
    }

    private static void promise16ChangesNothing() {
        check.about("promise 16: 'Questions change nothing'");
        new Twins(check, Twins::busy).changesNothing("largest(0, 1, 2, 20)", x -> x.largest(0, 1, 2, 20));
        new Twins(check, Twins::full).changesNothing("largest(0, 2, 1, 120)", x -> x.largest(0, 2, 1, 120));
    }

    private static void promise17NoneThatIsNotMissed() {
        check.about("promise 17: 'NONE if there is no contact that is not missed'");
        check.due("no contacts", new ContactWays().worst(), Check.NONE);
        ContactWays x = Check.planned(WIDE);
        check.due("one", x.worst(), 0);
        x.misses(0);
        check.due("one that is missed", x.worst(), Check.NONE);
        x.finds(0);
        check.due("one that is found", x.worst(), 0);
        ContactWays y = Check.planned("c0 1 0 1 1 0;".repeat(8));
        for (int c = 0; c < 8; c++) {
            check.due("those before are missed", y.worst(), c);
            y.misses(c);
        }
        check.due("all are missed", y.worst(), Check.NONE);
    }

    private static void promise17TheLeastOfSeveral() {
        check.about("promise 17: 'the least one of several'");
        ContactWays x = Check.planned("n4;c0 1 0 9 1 0;c1 2 0 9 1 0;c2 3 0 9 1 0;");
        check.due("none hurts", x.worst(), 0);
        x.sends(0, 3, 1, 99, 0);
        check.due("all hurt alike", x.worst(), 0);
        x.sends(1, 3, 1, 99, 0);
        check.due("two of them hurt more", x.worst(), 1);
        x.sends(2, 3, 1, 99, 0);
        check.due("one of them hurts most", x.worst(), 2);
    }

    private static void promise17NotTheMissedOnes() {
        check.about("promise 17: 'the one that is not missed'");
        ContactWays x = Check.planned("c0 1 0 9 1 0;c1 0 0 9 1 0;");
        x.misses(0);
        check.due("nothing hurts", x.worst(), 1);
        x.sends(0, 1, 1, 99, 0);
        check.due("one waits for it", x.worst(), 1);
        ContactWays y = Check.planned("c0 1 0 9 1 0;c0 1 0 9 1 0;c1 0 0 9 1 0;");
        y.sends(0, 1, 1, 99, 0);
        y.misses(0);
        check.due("it went over to 1", y.worst(), 1);
    }

    private static void promise17TheGreatestNumber() {
        check.about("promise 17: 'misses() would return the greatest number'");
        ContactWays x = Check.planned("c0 1 0 99 1 0;c1 0 0 99 1 0;");
        x.sends(1, 0, 1, 99, 0);
        check.due("one", x.worst(), 1);
        x.sends(0, 1, 1, 99, 0);
        check.due("one each", x.worst(), 0);
        x.sends(1, 0, 1, 99, 0);
        check.due("two and one", x.worst(), 1);
        for (int b = 3; b < 8; b++) {
            x.sends(0, 1, 1, 99, 0);
        }
        check.due("two and six", x.worst(), 0);
        check.due("misses(0)", x.misses(0), 6);
        x.undo();
        check.due("misses(1)", x.misses(1), 2);
    }

    private static void promise17AllContacts() {
        check.about("promise 17: the last of eight contacts");
        ContactWays x = Check.planned("c0 1 0 9 1 0;".repeat(7) + "c1 0 0 9 1 0;");
        x.sends(1, 0, 1, 99, 0);
        check.due("worst()", x.worst(), 7);
        x.sends(0, 1, 1, 99, 0);
        check.due("the others stand in for each other", x.worst(), 7);
    }

    private static void promise17OnlyThoseThatWaitCount() {
        check.about("promise 17: dropped and late bundles do not count, and hops that are over");
        ContactWays x = Check.planned("c0 1 0 9 1 9;c1 0 0 9 1 9;");
        x.sends(1, 0, 3, 99, 0);
        x.passes(2);
        check.due("it takes a tick that is now", x.worst(), 1);
        x.passes(1);
        check.due("its ticks are over", x.worst(), 0);
        x.undo();
        x.drops(0);
        check.due("it is dropped", x.worst(), 0);
    }

    private static void promise17ChangesNothing() {
        check.about("promise 17: 'Questions change nothing'");
        new Twins(check, Twins::busy).changesNothing("worst()", x -> x.worst());
        new Twins(check, Twins::full).changesNothing("worst()", x -> x.worst());
        new Twins(check, ContactWays::new).refuse("worst()", Check.NONE, x -> x.worst());
    }

    private static void promise18Nodes() {
        check.about("promise 18: 'BAD if there is no such node'");
        Twins busy = new Twins(check, Twins::busy);
        busy.refuseOutside("node", 0, 3, (x, v) -> x.sees(v, 1, 5));
        busy.refuseOutside("goal", 0, 3, (x, v) -> x.sees(1, v, 5));
        ContactWays x = Check.planned("n6;");
        check.due("from the last node", x.sees(5, 0, 5), 1);
        check.due("to the last node", x.sees(0, 5, 5), 2);
        check.due("from one more", x.sees(6, 0, 5), Check.BAD);
        check.due("to one more", x.sees(0, 6, 5), Check.BAD);
    }

    private static void promise18BothNodesTheSame() {
        check.about("promise 18: 'BAD if ... both are the same'");
        Twins busy = new Twins(check, Twins::busy);
        for (int node = -1; node <= 4; node++) {
            int same = node;
            busy.refuse("sees at " + node, Check.BAD, x -> x.sees(same, same, 5));
        }
    }

    private static void promise18Ticks() {
        check.about("promise 18: 'the tick, 0 to 120, or 121'");
        new Twins(check, Twins::busy).refuseOutside("a", 0, 121, (x, v) -> x.sees(0, 1, v));
        check.due("a 0", new ContactWays().sees(0, 1, 0), 1);
        check.due("a 120", new ContactWays().sees(0, 1, 120), 1);
        check.due("a 121", new ContactWays().sees(0, 1, 121), 1);
        check.due("a 122", new ContactWays().sees(0, 1, 122), Check.BAD);
        check.due("a -1", new ContactWays().sees(0, 1, -1), Check.BAD);
        check.due("a NONE", new ContactWays().sees(0, 1, Check.NONE), Check.BAD);
    }

    private static void promise18SixObservations() {
        check.about("promise 18: 'There can be 6 observations', 'FULL if there are 6'");
        ContactWays x = new ContactWays();
        for (int k = 1; k <= 6; k++) {
            check.due("sees", x.sees(0, 1, 121), k);
            check.due("count(6)", x.count(6), k);
        }
        check.due("a seventh", x.sees(0, 1, 121), Check.FULL);
        check.due("count(6)", x.count(6), 6);
        Twins full = new Twins(check, Twins::full);
        full.refuse("a seventh", Check.FULL, y -> y.sees(0, 1, 6));
        full.refuse("a seventh that is not true", Check.FULL, y -> y.sees(1, 0, 6));
        full.refuse("a seventh of 121", Check.FULL, y -> y.sees(1, 0, 121));
        Twins withRoomForText = new Twins(check, () -> {
            ContactWays y = Twins.busy();
            for (int k = 3; k <= 6; k++) {
                y.sees(0, 1, 6);
            }
            return y;
        });
        withRoomForText.refuse("a seventh", Check.FULL, y -> y.sees(0, 1, 6));
    }

    private static void promise18BadComesBeforeFull() {
        check.about("promise 18: BAD comes before FULL");
        Twins full = new Twins(check, Twins::full);
        full.refuseOutside("node", 0, 3, (x, v) -> x.sees(v, 1, 5));
        full.refuseOutside("goal", 0, 3, (x, v) -> x.sees(1, v, 5));
        full.refuseOutside("a", 0, 121, (x, v) -> x.sees(0, 1, v));
        full.refuse("the same node", Check.BAD, x -> x.sees(1, 1, 5));
    }

    private static void promise18ChangesNothingElse() {
        check.about("promise 18: it adds an observation and no more");
        ContactWays x = Twins.busy();
        String before = Check.state(x);
        check.due("sees", x.sees(0, 1, 9), 3);
        check.due("state", Check.state(x), before);
        check.due("count(7)", x.count(7), Twins.BUSY_TEXT.length());
        check.due("it is no action", x.undo(), 7);
        check.due("and stays", x.count(6), 3);
    }

    private static void promise19HowManyThereWere() {
        check.about("promise 19: 'how many there were'");
        for (int seen = 0; seen <= 6; seen++) {
            ContactWays x = new ContactWays();
            for (int k = 0; k < seen; k++) {
                x.sees(0, 1, k);
            }
            check.due("forget()", x.forget(), seen);
            check.due("forget() again", x.forget(), 0);
        }
    }

    private static void promise19RemovesAll() {
        check.about("promise 19: 'Removes all observations'");
        ContactWays x = Twins.full();
        String before = Check.state(x);
        check.due("unseen()", x.unseen(), 2);
        check.due("forget()", x.forget(), 6);
        check.due("count(6)", x.count(6), 0);
        check.due("the text stays", x.count(7), 150);
        check.due("unseen()", x.unseen(), 1 | 2 | 8);
        check.due("state", Check.state(x), before);
        for (int k = 1; k <= 6; k++) {
            check.due("sees", x.sees(0, 1, 0), k);
        }
        check.due("a seventh", x.sees(0, 1, 0), Check.FULL);
    }

    private static void promise20NoObservations() {
        check.about("promise 20: all of no observations are true");
        for (int contacts = 1; contacts <= 8; contacts++) {
            ContactWays x = Check.planned(WIDE.repeat(contacts));
            check.due(contacts + " contacts", x.unseen(), (1 << contacts) - 1);
        }
    }

    private static void promise20NoContacts() {
        check.about("promise 20: the set is empty without contacts");
        ContactWays x = new ContactWays();
        check.due("unseen()", x.unseen(), 0);
        x.sees(0, 1, 121);
        check.due("unseen() with one that is true", x.unseen(), 0);
    }

    private static void promise20NotTheMissedOnes() {
        check.about("promise 20: 'the contacts that are not missed'");
        ContactWays x = Check.planned(WIDE.repeat(8));
        int due = 255;
        for (int c = 7; c >= 0; c--) {
            x.misses(c);
            due -= 1 << c;
            check.due("missed from " + c, x.unseen(), due);
        }
        x.sees(0, 1, 121);
        check.due("it is true, but all are missed", x.unseen(), 0);
        x.finds(3);
        check.due("one is found", x.unseen(), 8);
    }

    private static void promise20AllObservationsAreTrue() {
        check.about("promise 20: 'all observations are true'");
        ContactWays x = Check.planned("n3;c0 1 0 9 1 0;c1 2 0 9 1 0;c2 0 0 9 1 0;");
        x.sees(1, 2, 1);
        check.due("one", x.unseen(), 1 | 4);
        x.sees(0, 1, 1);
        check.due("two", x.unseen(), 4);
        for (int k = 3; k <= 5; k++) {
            x.sees(2, 0, 121);
            check.due(k + " of them", x.unseen(), 4);
        }
        x.sees(0, 2, 2);
        check.due("six that are true", x.unseen(), 4);
        ContactWays y = Check.planned("n3;c0 1 0 9 1 0;c1 2 0 9 1 0;c2 0 0 9 1 0;");
        for (int k = 1; k <= 5; k++) {
            y.sees(2, 0, 121);
        }
        check.due("five", y.unseen(), 4);
        y.sees(2, 0, 1);
        check.due("the sixth contradicts them", y.unseen(), 0);
        ContactWays z = Check.planned("n3;c0 1 0 9 1 0;c1 2 0 9 1 0;c2 0 0 9 1 0;");
        z.sees(2, 0, 1);
        for (int k = 1; k <= 5; k++) {
            z.sees(0, 1, 121);
        }
        check.due("the first one counts", z.unseen(), 1);
    }

    private static void promise20TrueToTheTick() {
        check.about("promise 20: 'asks() ... would return a'");
        int[] due = {0, 1 | 2, 0};
        for (int k = 0; k < 3; k++) {
            ContactWays x = Check.planned("c1 0 0 9 1 0;c1 0 0 9 1 0;c0 1 4 9 1 0;");
            x.sees(0, 1, 4 + k);
            check.due("a " + (4 + k), x.unseen(), due[k]);
        }
        ContactWays y = Check.planned("c0 1 98 99 1 9;c1 0 0 1 1 0;");
        y.sees(0, 1, 108);
        check.due("a 108", y.unseen(), 2);
        y.forget();
        y.sees(0, 1, 120);
        check.due("a 120", y.unseen(), 0);
    }

    private static void promise20NoneIs121() {
        check.about("promise 20: '121 if it would return NONE'");
        ContactWays x = Check.planned("n3;c0 1 0 9 1 0;c1 2 0 9 1 0;");
        x.sees(2, 0, 121);
        check.due("there is no way in any case", x.unseen(), 3);
        x.sees(0, 1, 121);
        check.due("there is none without 0", x.unseen(), 1);
        x.forget();
        x.sees(2, 0, 120);
        check.due("120 is a tick", x.unseen(), 0);
        x.forget();
        x.sees(2, 0, 0);
        check.due("0 is a tick", x.unseen(), 0);
    }

    private static void promise20TrueNow() {
        check.about("promise 20: 'are true now'");
        ContactWays x = Check.planned("c0 1 0 9 1 0;c1 0 0 9 1 0;");
        x.sees(0, 1, 4);
        int[] due = {0, 0, 0, 2, 0};
        for (int now = 0; now < due.length; now++) {
            check.due("at " + now, x.unseen(), due[now]);
            x.passes(1);
        }
        x.forget();
        x.sees(0, 1, 121);
        check.due("at 5", x.unseen(), 1);
        x.passes(4);
        check.due("behind the window", x.unseen(), 3);
    }

    private static void promise20SizeOneAndPriorityTwo() {
        check.about("promise 20: 'for size 1 and priority 2'");
        ContactWays x = Check.planned("c0 1 0 20 1 0;c1 0 0 9 1 0;");
        x.sends(0, 1, 5, 99, 1);
        x.sees(0, 1, 1);
        check.due("before priority 1", x.unseen(), 2);
        x.passes(1);
        x.forget();
        x.sees(0, 1, 6);
        check.due("behind a hop on its way", x.unseen(), 2);
        ContactWays y = Check.planned("c0 1 0 20 1 0;c1 0 0 9 1 0;");
        y.sends(0, 1, 5, 99, 2);
        y.sees(0, 1, 6);
        check.due("behind priority 2", y.unseen(), 2);
    }

    private static void promise20HopsStayBooked() {
        check.about("promise 20: 'also the hops that are booked on it'");
        ContactWays x = Check.planned("c0 1 0 20 1 0;c0 1 5 20 1 0;");
        x.sends(0, 1, 9, 99, 2);
        x.sees(0, 1, 6);
        // were the bundle to leave 0, it would take 5 to 13 of contact 1
        check.due("unseen()", x.unseen(), 1);
        x.forget();
        x.sees(0, 1, 10);
        check.due("behind the bundle", x.unseen(), 2);
    }

    private static void promise20SetOfEight() {
        check.about("promise 20: 'bit c for contact c'");
        String all = "n6;";
        for (int c = 0; c < 8; c++) {
            all += "c" + c % 6 + " " + (c + 1 + c / 6) % 6 + " 0 9 1 0;";
        }
        for (int c = 0; c < 8; c++) {
            ContactWays x = Check.planned(all);
            int from = x.contact(c, 0);
            int to = x.contact(c, 1);
            int there = x.asks(from, to, 1, 2);
            check.due("asks", there, 1);
            x.sees(from, to, 1);
            check.due("all but " + c, x.unseen(), 255 - (1 << c));
        }
    }

    private static void promise20ChangesNothing() {
        check.about("promise 20: 'Questions change nothing'");
        new Twins(check, Twins::busy).changesNothing("unseen()", x -> x.unseen());
        new Twins(check, Twins::full).changesNothing("unseen()", x -> x.unseen());
    }
}
