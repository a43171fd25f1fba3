import java.util.function.IntPredicate;

/** The boundary cases of the plan of contacts and of promises 1 to 5, a test for each sentence. */
public final class PlanEdgeTests {
    private static final Check check = new Check();
    private static final String ONE = "c0 1 0 1 1 0;";
    private static final String EIGHT = ONE.repeat(8);

    public static void main(String[] args) {
        objectIsUsedFor512Calls();
        promise1TwoNodes();
        promise1NoContacts();
        promise1EmptyText();
        promise1NoObservations();
        promise1NoImages();
        promise1ObjectsStandAlone();
        promise2LetterIs0To255();
        promise2FullAt150();
        promise2LetterIsTheByte();
        promise3LengthItHad();
        promise3EmptiesTheTextAlone();
        promise4TwoToSixNodes();
        promise4TwoNodesOtherwise();
        promise4AtMostEightContacts();
        promise4ToAnotherNode();
        promise4Starts();
        promise4Ends();
        promise4Rates();
        promise4LightTimes();
        promise4Windows();
        promise4NoneIsMissedAtFirst();
        promise4NowIsTheNextTick();
        promise4TextOf150Bytes();
        promise4PerhapsEmpty();
        promise4EachItemEndsWithASemicolon();
        promise4NodesAreTheFirstItem();
        promise4NumbersAreLongestSequences();
        promise4Blanks();
        promise4BlanksAreNotNecessary();
        promise4EveryByteAtEveryPlace();
        promise4TextsThatEndTooEarly();
        promise4NumbersAbove99();
        promise4ZeroBeforeOtherDigits();
        promise4TheFirstFaultCounts();
        promise4FaultChangesNothing();
        promise4NothingIsLeftOfTheLastPlan();
        promise5Contacts();
        promise5What();
        promise5Missed();
        check.close();
    }

    /** What plan() answers of a text that is typed into a new object. */
    private static int planOf(String text) {
        ContactWays x = new ContactWays();
        Check.type(x, text);
        return x.plan();
    }

    private static void taken(String text, int items) {
        check.due("plan() of '" + text + "'", planOf(text), items);
    }

    private static void faulty(String text, int fault) {
        check.due("plan() of '" + text + "'", planOf(text), -10 - fault);
    }

    private static void objectIsUsedFor512Calls() {
        check.about("What it is: 'at most 512 calls'");
        ContactWays x = new ContactWays();
        int calls = 0;
        for (int k = 0; k < ONE.length(); k++) {
            x.type(ONE.charAt(k));
            calls++;
        }
        check.due("plan()", x.plan(), 1);
        calls++;
        while (calls < 509) {
            check.due("keep", x.keep(0), 0);
            check.due("passes", x.passes(99), 99);
            check.due("back", x.back(0), 0);
            calls += 3;
        }
        check.due("calls", calls, 509);
        check.due("the 510th call", x.count(3), 0);
        check.due("the 511th call", x.sends(0, 1, 1, 1, 0), 1);
        check.due("the 512th call", x.bundle(0, 2), 1);
    }

    private static void promise1TwoNodes() {
        check.about("promise 1: 'a network of two nodes'");
        ContactWays x = new ContactWays();
        check.due("count(0)", x.count(0), 2);
        check.due("asks from node 0", x.asks(0, 1, 1, 0), Check.NONE);
        check.due("asks from node 1", x.asks(1, 0, 1, 0), Check.NONE);
        check.due("asks at node 1", x.asks(1, 1, 1, 0), 0);
        check.due("asks from node 2", x.asks(2, 0, 1, 0), Check.BAD);
        check.due("asks to node 2", x.asks(0, 2, 1, 0), Check.BAD);
        check.due("asks from node -1", x.asks(-1, 0, 1, 0), Check.BAD);
    }

    private static void promise1NoContacts() {
        check.about("promise 1: 'without contacts'");
        ContactWays x = new ContactWays();
        check.due("count(1)", x.count(1), 0);
        check.due("contact(0, 0)", x.contact(0, 0), Check.BAD);
        check.due("misses(0)", x.misses(0), Check.BAD);
        check.due("finds(0)", x.finds(0), Check.BAD);
        check.due("tick(0, 0)", x.tick(0, 0), Check.BAD);
        check.due("worst()", x.worst(), Check.NONE);
        check.due("unseen()", x.unseen(), 0);
        check.due("sends()", x.sends(0, 1, 1, 99, 2), Check.NONE);
    }

    private static void promise1EmptyText() {
        check.about("promise 1: 'an empty text'");
        check.due("count(7)", new ContactWays().count(7), 0);
        check.due("clear()", new ContactWays().clear(), 0);
        check.due("plan()", new ContactWays().plan(), 0);
        check.due("type(32)", new ContactWays().type(32), 1);
    }

    private static void promise1NoObservations() {
        check.about("promise 1: 'no observations'");
        check.due("count(6)", new ContactWays().count(6), 0);
        check.due("forget()", new ContactWays().forget(), 0);
        check.due("sees()", new ContactWays().sees(0, 1, 0), 1);
    }

    private static void promise1NoImages() {
        check.about("promise 1: 'no images'");
        Twins fresh = new Twins(check, ContactWays::new);
        fresh.refuse("back(0)", Check.STATE, x -> x.back(0));
        fresh.refuse("back(1)", Check.STATE, x -> x.back(1));
        fresh.refuse("undo()", Check.STATE, x -> x.undo());
    }

    private static void promise1ObjectsStandAlone() {
        check.about("promise 1: two objects");
        ContactWays x = Twins.full();
        ContactWays y = new ContactWays();
        for (int what = 1; what <= 8; what++) {
            check.due("count(" + what + ")", y.count(what), 0);
        }
        check.due("back(0)", y.back(0), Check.STATE);
        check.due("the other one's count(2)", x.count(2), 8);
    }

    private static void promise2LetterIs0To255() {
        check.about("promise 2: 'the byte, 0 to 255'");
        check.due("type(0)", new ContactWays().type(0), 1);
        check.due("type(255)", new ContactWays().type(255), 1);
        new Twins(check, Twins::busy).refuseOutside("type", 0, 255, (x, v) -> x.type(v));
        new Twins(check, ContactWays::new).refuseOutside("type", 0, 255, (x, v) -> x.type(v));
    }

    private static void promise2FullAt150() {
        check.about("promise 2: 'FULL if the text has 150 bytes'");
        ContactWays x = new ContactWays();
        for (int length = 1; length <= 150; length++) {
            check.due("type", x.type(' '), length);
        }
        check.due("the 151st", x.type(' '), Check.FULL);
        check.due("count(7)", x.count(7), 150);
        check.due("clear()", x.clear(), 150);
        check.due("the first one again", x.type(' '), 1);
        Twins full = new Twins(check, Twins::full);
        full.refuse("type(0)", Check.FULL, y -> y.type(0));
        full.refuse("type(59)", Check.FULL, y -> y.type(59));
        full.refuse("type(255)", Check.FULL, y -> y.type(255));
        check.about("promise 2: BAD comes before FULL");
        full.refuseOutside("type", 0, 255, (y, v) -> y.type(v));
    }

    private static void promise2LetterIsTheByte() {
        check.about("promise 2: 'Appends a byte'");
        faulty("n2;\u00ee", 3); // 238 is 110, the n, with the eighth bit
        faulty("\u00e3", 0); // 227 is 99, the c, with the eighth bit
        ContactWays x = new ContactWays();
        check.due("type(256 + 'n')", x.type(256 + 'n'), Check.BAD);
        check.due("type('n')", x.type('n'), 1);
        check.due("type('6')", x.type('6'), 2);
        check.due("type(';')", x.type(';'), 3);
        check.due("plan()", x.plan(), 1);
        check.due("count(0)", x.count(0), 6);
    }

    private static void promise3LengthItHad() {
        check.about("promise 3: 'the length that it had'");
        ContactWays x = new ContactWays();
        check.due("clear() of nothing", x.clear(), 0);
        Check.type(x, "n");
        check.due("clear() of one", x.clear(), 1);
        Check.type(x, " ".repeat(150));
        check.due("clear() of 150", x.clear(), 150);
        check.due("clear() again", x.clear(), 0);
        check.due("count(7)", x.count(7), 0);
        Check.type(x, "n3;");
        check.due("plan()", x.plan(), 1);
        check.due("count(0)", x.count(0), 3);
    }

    private static void promise3EmptiesTheTextAlone() {
        check.about("promise 3: 'Empties the text'");
        ContactWays x = Twins.busy();
        ContactWays y = Twins.busy();
        x.clear();
        check.due("state", Check.state(x), Check.state(y));
        check.due("count(6)", x.count(6), 2);
        check.due("unseen()", x.unseen(), y.unseen());
        check.due("back(0)", x.back(0), y.back(0));
        check.due("state", Check.state(x), Check.state(y));
    }

    private static void promise4TwoToSixNodes() {
        check.about("promise 4: '2 to 6 nodes, numbered from 0'");
        faulty("n0;", 1);
        faulty("n1;", 1);
        faulty("n7;", 1);
        faulty("n8;", 1);
        faulty("n9;", 1);
        for (int n = 2; n <= 6; n++) {
            ContactWays x = Check.planned("n" + n + ";");
            check.due("count(0)", x.count(0), n);
            check.due("asks to the last node", x.asks(0, n - 1, 1, 0), Check.NONE);
            check.due("asks to one more", x.asks(0, n, 1, 0), Check.BAD);
            check.due("asks from the last node", x.asks(n - 1, 0, 1, 0), Check.NONE);
            check.due("asks from one more", x.asks(n, 0, 1, 0), Check.BAD);
            String head = "n" + n + ";c";
            taken(head + (n - 1) + " 0 0 1 1 0;", 2);
            taken(head + "0 " + (n - 1) + " 0 1 1 0;", 2);
            faulty(head + n + " 0 0 1 1 0;", 4);
            faulty(head + "0 " + n + " 0 1 1 0;", 6);
        }
    }

    private static void promise4TwoNodesOtherwise() {
        check.about("promise 4: 'the number of nodes, which is 2 otherwise'");
        taken("c1 0 0 1 1 0;", 1);
        faulty("c2 0 0 1 1 0;", 1);
        faulty("c0 2 0 1 1 0;", 3);
        check.due("count(0)", Check.planned(ONE).count(0), 2);
        ContactWays x = Check.planned("n6;");
        Check.type(x, "c0 2 0 1 1 0;");
        check.due("plan() behind one with six nodes", x.plan(), -13);
        check.due("count(0)", x.count(0), 6);
        x.clear();
        check.due("plan() of nothing", x.plan(), 0);
        check.due("count(0)", x.count(0), 2);
    }

    private static void promise4AtMostEightContacts() {
        check.about("promise 4: 'at most 8 contacts, numbered from 0'");
        taken(ONE.repeat(7), 7);
        taken(EIGHT, 8);
        taken("n6;" + EIGHT, 9);
        faulty(EIGHT + "c", 104);
        faulty(EIGHT + ONE, 104);
        faulty(EIGHT + "  " + ONE, 106);
        faulty("n6;" + EIGHT + "c9", 107);
        ContactWays x = Check.planned("c0 1 0 2 1 0;" + ONE.repeat(6) + "c1 0 3 4 5 6;");
        check.due("count(1)", x.count(1), 8);
        check.due("contact(0, 3)", x.contact(0, 3), 2);
        check.due("contact(6, 0)", x.contact(6, 0), 0);
        check.due("contact(7, 0)", x.contact(7, 0), 1);
        check.due("contact(7, 5)", x.contact(7, 5), 6);
        check.due("contact(8, 0)", x.contact(8, 0), Check.BAD);
        check.due("a way by the eighth", x.sends(1, 0, 1, 99, 0), 10);
    }

    private static void promise4ToAnotherNode() {
        check.about("promise 4: 'to another node T', 'a T that equals F'");
        for (int node = 0; node < 6; node++) {
            faulty("n6;c" + node + " " + node + " 0 1 1 0;", 6);
            taken("n6;c" + node + " " + (node + 1) % 6 + " 0 1 1 0;", 2);
            taken("n6;c" + node + " " + (node + 5) % 6 + " 0 1 1 0;", 2);
        }
    }

    private static void promise4Starts() {
        check.about("promise 4: 'S is 0 to 98'");
        taken("c0 1 0 99 1 0;", 1);
        taken("c0 1 1 99 1 0;", 1);
        taken("c0 1 97 99 1 0;", 1);
        taken("c0 1 98 99 1 0;", 1);
        faulty("c0 1 99 99 1 0;", 5);
        faulty("c0 1 99", 5);
        faulty("c0 1 100 99 1 0;", 5);
        check.due("contact(0, 2)", Check.planned("c0 1 98 99 1 0;").contact(0, 2), 98);
        check.due("contact(0, 2)", Check.planned("c0 1 0 99 1 0;").contact(0, 2), 0);
    }

    private static void promise4Ends() {
        check.about("promise 4: 'E is S + 1 to 99'");
        for (int start = 0; start <= 98; start++) {
            String head = "c0 1 " + start + " ";
            faulty(head + start + " 1 0;", head.length());
            taken(head + (start + 1) + " 1 0;", 1);
            taken(head + "99 1 0;", 1);
            faulty(head + "100 1 0;", head.length());
            if (start > 0) {
                faulty(head + (start - 1) + " 1 0;", head.length());
                faulty(head + "0 1 0;", head.length());
            }
        }
        check.due("contact(0, 3)", Check.planned("c0 1 98 99 1 0;").contact(0, 3), 99);
        check.due("contact(0, 3)", Check.planned(ONE).contact(0, 3), 1);
    }

    private static void promise4Rates() {
        check.about("promise 4: 'a rate from 1 to 9'");
        faulty("c0 1 0 1 0 0;", 9);
        for (int rate = 1; rate <= 9; rate++) {
            check.due("contact(0, 4)", Check.planned("c0 1 0 1 " + rate + " 0;").contact(0, 4), rate);
        }
        faulty("c0 1 0 1 10 0;", 9);
        faulty("c0 1 0 1 11 0;", 9);
        faulty("c0 1 0 1 99 0;", 9);
    }

    private static void promise4LightTimes() {
        check.about("promise 4: 'a light time from 0 to 9'");
        for (int light = 0; light <= 9; light++) {
            check.due("contact(0, 5)", Check.planned("c0 1 0 1 1 " + light + ";").contact(0, 5), light);
        }
        faulty("c0 1 0 1 1 10;", 11);
        faulty("c0 1 0 1 1 11;", 11);
        faulty("c0 1 0 1 1 99;", 11);
    }

    private static void promise4Windows() {
        check.about("promise 4: 'in the ticks S to E - 1'");
        ContactWays x = Check.planned("c0 1 3 7 1 0;");
        check.due("not before the first tick", x.asks(0, 1, 1, 0), 4);
        check.due("all ticks", x.asks(0, 1, 4, 0), 7);
        check.due("one more", x.asks(0, 1, 5, 0), Check.NONE);
        check.due("sends", x.sends(0, 1, 4, 99, 0), 7);
        int[] takers = {Check.NONE, Check.NONE, Check.NONE, 0, 0, 0, 0, Check.NONE, Check.NONE};
        for (int t = 0; t < takers.length; t++) {
            check.due("tick(0, " + t + ")", x.tick(0, t), takers[t]);
        }
        x.undo();
        x.passes(6);
        check.due("the last tick", x.asks(0, 1, 1, 0), 7);
        check.due("and one more", x.asks(0, 1, 2, 0), Check.NONE);
        x.passes(1);
        check.due("behind the window", x.asks(0, 1, 1, 0), Check.NONE);
        ContactWays y = Check.planned("c0 1 98 99 1 0;");
        check.due("tick 98", y.sends(0, 1, 1, 99, 0), 99);
        check.due("tick(0, 97)", y.tick(0, 97), Check.NONE);
        check.due("tick(0, 98)", y.tick(0, 98), 0);
        check.due("tick(0, 99)", y.tick(0, 99), Check.NONE);
        check.due("tick 99 is in no window", y.asks(0, 1, 1, 0), Check.NONE);
        ContactWays z = Check.planned("c0 1 0 99 1 0;");
        z.passes(98);
        check.due("at 98", z.asks(0, 1, 1, 0), 99);
        z.passes(1);
        check.due("at 99", z.asks(0, 1, 1, 0), Check.NONE);
    }

    private static void promise4NoneIsMissedAtFirst() {
        check.about("promise 4: 'A contact can be missed; at first none is'");
        ContactWays x = Check.planned(EIGHT);
        for (int c = 0; c < 8; c++) {
            check.due("contact(" + c + ", 6)", x.contact(c, 6), 0);
            check.due("misses(" + c + ")", x.misses(c), 0);
            check.due("contact(" + c + ", 6)", x.contact(c, 6), 1);
        }
        Check.type(x, EIGHT);
        x.plan();
        for (int c = 0; c < 8; c++) {
            check.due("contact(" + c + ", 6)", x.contact(c, 6), 0);
        }
    }

    private static void promise4NowIsTheNextTick() {
        check.about("promise 4: 'now, is 0 at first; it is the next one to come'");
        ContactWays x = Check.planned("c0 1 0 99 1 0;");
        check.due("count(3)", x.count(3), 0);
        check.due("sends", x.sends(0, 1, 1, 99, 0), 1);
        check.due("it takes tick 0", Check.hops(x, 0), "0@0");
        x.passes(7);
        check.due("sends", x.sends(0, 1, 1, 99, 0), 8);
        check.due("it takes tick 7", Check.hops(x, 1), "0@7");
        x.passes(91);
        check.due("sends", x.sends(0, 1, 1, 99, 0), 99);
        check.due("it takes tick 98", Check.hops(x, 2), "0@98");
    }

    private static void promise4TextOf150Bytes() {
        check.about("promise 4: 'a text of at most 150 bytes'");
        taken(ONE.repeat(7) + " ".repeat(46) + ONE, 8);
        taken(EIGHT + " ".repeat(46), 8);
        taken(" ".repeat(147) + "n6;", 1);
        taken(" ".repeat(150), 0);
        // the semicolon would be the 151st byte
        faulty(ONE.repeat(7) + " ".repeat(47) + ONE, 150);
        faulty(" ".repeat(148) + "n6;", 150);
        faulty(" ".repeat(149) + "n6;", 150);
        faulty(" ".repeat(149) + "6", 149);
        faulty("n" + "6".repeat(149), 1);
        faulty(EIGHT + " ".repeat(45) + "c", 149);
    }

    private static void promise4PerhapsEmpty() {
        check.about("promise 4: 'a sequence of items, perhaps empty'");
        taken("", 0);
        taken(" ", 0);
        ContactWays x = Twins.busy();
        x.clear();
        check.due("plan()", x.plan(), 0);
        check.due("count(0)", x.count(0), 2);
        for (int what = 1; what <= 8; what++) {
            check.due("count(" + what + ")", x.count(what), 0);
        }
    }

    private static void promise4EachItemEndsWithASemicolon() {
        check.about("promise 4: 'each of which ends with a semicolon'");
        faulty("n2", 2);
        taken("n2;", 1);
        faulty("n2 c0 1 0 1 1 0;", 3);
        faulty("c0 1 0 1 1 0", 12);
        faulty("c0 1 0 1 1 0 c0 1 0 1 1 0;", 13);
        faulty("n2;c0 1 0 1 1 0", 15);
        faulty(";", 0);
        faulty("n2;;", 3);
        faulty(ONE + ";", 13);
        faulty("n;", 1);
        faulty("c;", 1);
        faulty("c0 1 0 1 1;", 10);
    }

    private static void promise4NodesAreTheFirstItem() {
        check.about("promise 4: 'can only be the first item', 'an n behind another item'");
        taken("n3;" + ONE, 2);
        taken("  n3;" + ONE, 2);
        taken("n6;", 1);
        faulty("n3;n3;", 3);
        faulty("n3; n", 4);
        faulty(ONE + "n2;", 13);
        faulty("n3;" + ONE + "n3;", 16);
        faulty(EIGHT + "n2;", 104);
    }

    private static void promise4NumbersAreLongestSequences() {
        check.about("promise 4: 'numbers, which are longest sequences of digits'");
        faulty("n22;", 1);
        faulty("n66;", 1);
        faulty("c01 0 1 1 0;", 1);
        faulty("c0 10 1 1 0;", 3);
        faulty("c0 1 01 1 0;", 5);
        check.due("contact(0, 3)", Check.planned("c0 1 0 12 1 0;").contact(0, 3), 12);
        faulty("c0 1 0 1 12;", 9);
        faulty("n6 6;", 3);
        faulty("c0 1 0 1 2 1 0;", 13);
    }

    private static void promise4Blanks() {
        check.about("promise 4: 'Blanks (byte 32) can stand before, between and behind tokens'");
        taken(" n2;", 1);
        taken("n 2;", 1);
        taken("n2 ;", 1);
        taken("n2; ", 1);
        taken("   n   2   ;   c   0   1   0   1   1   0   ;   ", 2);
        for (int k = 0; k <= ONE.length(); k++) {
            taken(ONE.substring(0, k) + " " + ONE.substring(k), 1);
        }
        for (int other : new int[] {0, 8, 9, 10, 11, 12, 13, 31, 33, 127, 128, 160, 255}) {
            faulty((char) other + ONE, 0);
            faulty("c" + (char) other + "0 1 0 1 1 0;", 1);
            faulty("c0" + (char) other + "1 0 1 1 0;", 2);
            faulty("c0 1 0 1 1 0" + (char) other + ";", 12);
            faulty(ONE + (char) other, 13);
        }
    }

    private static void promise4BlanksAreNotNecessary() {
        check.about("promise 4: 'not necessary where tokens end without them'");
        ContactWays x = Check.planned("n6;c5 4 3 27 9 8;c0 1 0 1 1 0;");
        check.due("count(1)", x.count(1), 2);
        int[] due = {5, 4, 3, 27, 9, 8};
        for (int what = 0; what < due.length; what++) {
            check.due("contact(0, " + what + ")", x.contact(0, what), due[what]);
        }
    }

    private static boolean isDigit(int b, int low, int high) {
        return b >= '0' + low && b <= '0' + high;
    }

    /** Every byte behind a text: what can stand there lacks only its end, all else is the fault. */
    private static void everyByte(String head, int itemsWithBlank, int itemsWithSemicolon, IntPredicate stands) {
        for (int b = 0; b <= 255; b++) {
            int want = -10 - head.length();
            if (b == ' ' && itemsWithBlank >= 0) {
                want = itemsWithBlank;
            } else if (b == ';' && itemsWithSemicolon >= 0) {
                want = itemsWithSemicolon;
            } else if (b == ' ' || stands.test(b)) {
                want--;
            }
            check.due("'" + head + "' and byte " + b, planOf(head + (char) b), want);
        }
    }

    private static void promise4EveryByteAtEveryPlace() {
        check.about("promise 4: 'any other byte'");
        everyByte("", 0, -1, b -> b == 'n' || b == 'c');
        everyByte("n", -1, -1, b -> isDigit(b, 2, 6));
        everyByte("n2 ", -1, 1, b -> false);
        everyByte("n2;", 1, -1, b -> b == 'c');
        everyByte(ONE, 1, -1, b -> b == 'c');
        everyByte("c", -1, -1, b -> isDigit(b, 0, 1));
        everyByte("c0 ", -1, -1, b -> isDigit(b, 1, 1));
        everyByte("n5;c3 ", -1, -1, b -> isDigit(b, 0, 2) || b == '4');
        everyByte("c0 1 ", -1, -1, b -> isDigit(b, 0, 9));
        everyByte("c0 1 3 ", -1, -1, b -> isDigit(b, 4, 9));
        everyByte("c0 1 98 ", -1, -1, b -> false);
        everyByte("c0 1 3 4 ", -1, -1, b -> isDigit(b, 1, 9));
        everyByte("c0 1 3 4 1 ", -1, -1, b -> isDigit(b, 0, 9));
        everyByte("c0 1 3 4 1 0 ", -1, 1, b -> false);
        everyByte(EIGHT, 8, -1, b -> false);
    }

    private static void promise4TextsThatEndTooEarly() {
        check.about("promise 4: 'If the text ends too early, the fault is its length'");
        String whole = "n3;c2 1 5 9 9 8;c0 1 0 1 1 0;";
        int items = 0;
        for (int length = 0; length <= whole.length(); length++) {
            String text = whole.substring(0, length);
            if (text.isEmpty() || text.endsWith(";")) {
                taken(text, items);
                taken(text + "  ", items);
                items++;
            } else {
                faulty(text, length);
                faulty(text + "  ", length + 2);
            }
        }
        faulty("n" + " ".repeat(149), 150);
        // a token that cannot stand there comes before the end
        faulty("n7", 1);
        faulty("c0 0", 3);
        faulty("c0 1 5 5", 7);
    }

    private static void promise4NumbersAbove99() {
        check.about("promise 4: 'a number above 99'");
        // 4294967296 is 0 with 32 bits, 18446744073709551616 with 64
        String[] items = {"n#;", "c# 1 0 1 1 0;", "c0 # 0 1 1 0;", "c0 1 # 98 1 0;", "c0 1 0 # 1 0;",
            "c0 1 0 1 # 0;", "c0 1 0 1 1 #;"};
        int[] good = {2, 0, 1, 0, 1, 1, 0};
        for (int k = 0; k < items.length; k++) {
            int at = items[k].indexOf('#');
            taken(items[k].replace("#", "" + good[k]), 1);
            faulty(items[k].replace("#", "100"), at);
            faulty(items[k].replace("#", "" + (256 + good[k])), at);
            faulty(items[k].replace("#", "" + (4294967296L + good[k])), at);
            faulty(items[k].replace("#", "1844674407370955161" + (6 + good[k])), at);
            faulty(items[k].replace("#", "9".repeat(130)), at);
            faulty(items[k].replace("#", "1" + "0".repeat(129)), at);
        }
        taken("c0 1 0 99 1 0;", 1);
    }

    private static void promise4ZeroBeforeOtherDigits() {
        check.about("promise 4: 'a 0 before other digits'");
        faulty("n02;", 1);
        faulty("c00 1 0 1 1 0;", 1);
        faulty("c0 01 0 1 1 0;", 3);
        faulty("c0 1 00 1 1 0;", 5);
        faulty("c0 1 05 6 1 0;", 5);
        faulty("c0 1 0 01 1 0;", 7);
        faulty("c0 1 0 010 1 0;", 7);
        faulty("c0 1 0 1 01 0;", 9);
        faulty("c0 1 0 1 1 00;", 11);
        faulty("c0 1 0 1 1 09;", 11);
        faulty("c0 1 0 1 1 " + "0".repeat(130) + ";", 11);
        taken("c0 1 0 10 1 0;", 1);
        taken("c1 0 0 1 1 0;", 1);
    }

    private static void promise4TheFirstFaultCounts() {
        check.about("promise 4: 'the first token that cannot stand there'");
        faulty("n7;n2;x", 1);
        faulty("c0 0 99 0 0 10", 3);
        faulty("c0 1 99 0 0 10", 5);
        faulty("c0 1 98 0 0 10", 8);
        faulty("c0 1 98 99 0 10", 11);
        faulty("c0 1 98 99 1 10", 13);
        faulty("x y", 0);
        faulty("n2;x;n2;", 3);
    }

    /** A busy object with a text that lacks its end. */
    private static ContactWays cut() {
        ContactWays x = Twins.busy();
        x.clear();
        Check.type(x, "n3;c2 0 1 20 3 4;c0 1 5 9 ");
        return x;
    }

    private static ContactWays overlong() {
        ContactWays x = Twins.busy();
        Check.type(x, ";".repeat(140));
        return x;
    }

    private static void promise4FaultChangesNothing() {
        check.about("promise 4: 'then nothing changes; the text stays, too'");
        new Twins(check, PlanEdgeTests::cut).refuse("plan()", -36, x -> x.plan());
        new Twins(check, PlanEdgeTests::overlong).refuse("plan()", -10 - Twins.BUSY_TEXT.length(), x -> x.plan());
        ContactWays x = cut();
        check.due("plan()", x.plan(), -36);
        check.due("count(7)", x.count(7), 26);
        check.due("plan() again", x.plan(), -36);
        Check.type(x, "7 6;");
        check.due("plan() of all", x.plan(), 3);
        check.due("contact(0, 3)", x.contact(0, 3), 20);
        check.due("contact(1, 5)", x.contact(1, 5), 6);
    }

    private static void promise4NothingIsLeftOfTheLastPlan() {
        check.about("promise 4: 'There are no bundles then, no contact is missed, now is 0'");
        ContactWays x = Twins.full();
        check.due("plan()", x.plan(), 2);
        int[] counts = {3, 1, 0, 0, 0, 0, 0, 0, 0};
        for (int what = 0; what <= 8; what++) {
            check.due("count(" + what + ")", x.count(what), counts[what]);
        }
        check.due("contact(0, 6)", x.contact(0, 6), 0);
        check.due("contact(1, 0)", x.contact(1, 0), Check.BAD);
        check.due("bundle(0, 0)", x.bundle(0, 0), Check.BAD);
        check.due("undo()", x.undo(), Check.STATE);
        check.due("back(0)", x.back(0), Check.STATE);
        check.due("back(1)", x.back(1), Check.STATE);
        check.due("forget()", x.forget(), 0);
        check.due("unseen()", x.unseen(), 1);
        for (int b = 0; b < 8; b++) {
            check.due("sends", x.sends(2, 2, 1, 1, 1), 0);
            check.due("hops", x.bundle(b, 3), 0);
        }
        ContactWays z = Check.planned(ONE);
        z.sends(1, 0, 1, 9, 1);
        z.drops(0);
        z.plan();
        check.due("sends", z.sends(1, 0, 1, 9, 1), Check.NONE);
        check.due("nothing is left of a dropped bundle", z.bundle(0, 0), 0);
        ContactWays y = Check.planned(Twins.BUSY_TEXT);
        check.due("it is as a new one", y.sends(2, 0, 1, 9, 1), 6);
        x.plan();
        Check.type(x, Twins.BUSY_TEXT);
        x.plan();
        check.due("so is the old one", x.sends(2, 0, 1, 9, 1), 6);
    }

    private static ContactWays eightContacts() {
        ContactWays x = Check.planned("n6;" + ONE.repeat(7) + "c5 4 3 27 9 8;");
        x.misses(0);
        return x;
    }

    private static void promise5Contacts() {
        check.about("promise 5: 'BAD if there is no such contact'");
        new Twins(check, Twins::busy).refuseOutside("contact", 0, 3, (x, v) -> x.contact(v, 0));
        new Twins(check, PlanEdgeTests::eightContacts).refuseOutside("contact", 0, 7, (x, v) -> x.contact(v, 6));
        new Twins(check, ContactWays::new).refuse("contact(0, 0)", Check.BAD, x -> x.contact(0, 0));
        ContactWays x = eightContacts();
        int[] due = {5, 4, 3, 27, 9, 8, 0};
        for (int what = 0; what <= 6; what++) {
            check.due("contact(7, " + what + ")", x.contact(7, what), due[what]);
        }
    }

    private static void promise5What() {
        check.about("promise 5: 'BAD if what is not 0 to 6'");
        Twins busy = new Twins(check, Twins::busy);
        busy.refuseOutside("what", 0, 6, (x, v) -> x.contact(0, v));
        for (int what = 0; what <= 6; what++) {
            int asked = what;
            busy.changesNothing("contact(3, " + what + ")", x -> x.contact(3, asked));
        }
    }

    private static void promise5Missed() {
        check.about("promise 5: '6 for whether it is missed (1 or 0)'");
        ContactWays x = eightContacts();
        check.due("contact(0, 6)", x.contact(0, 6), 1);
        check.due("contact(1, 6)", x.contact(1, 6), 0);
        x.misses(7);
        check.due("contact(7, 6)", x.contact(7, 6), 1);
        x.finds(7);
        check.due("contact(7, 6)", x.contact(7, 6), 0);
        x.undo();
        check.due("contact(7, 6)", x.contact(7, 6), 1);
        check.due("contact(0, 6)", x.contact(0, 6), 1);
    }
}
