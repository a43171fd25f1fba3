/** Promises 1 to 5: a new object, type, clear, plan, contact. */
public final class PlanTests {
    private static final Check check = new Check();
    private static final String EIGHT = "c0 1 0 1 1 0;".repeat(8);

    public static void main(String[] args) {
        newObject();
        type();
        clear();
        goodTexts();
        faults();
        faultChangesNothing();
        planStartsAnew();
        contact();
        check.close();
    }

    private static void newObject() {
        check.about("promise 1");
        ContactWays x = new ContactWays();
        check.due("count(0)", x.count(0), 2);
        for (int what = 1; what <= 8; what++) {
            check.due("count(" + what + ")", x.count(what), 0);
        }
        check.due("back(0)", x.back(0), Check.STATE);
        check.due("back(1)", x.back(1), Check.STATE);
        check.due("undo()", x.undo(), Check.STATE);
        check.due("contact(0, 0)", x.contact(0, 0), Check.BAD);
        check.due("bundle(0, 0)", x.bundle(0, 0), Check.BAD);
        check.due("hop(0, 0, 0)", x.hop(0, 0, 0), Check.BAD);
        check.due("tick(0, 0)", x.tick(0, 0), Check.BAD);
        check.due("misses(0)", x.misses(0), Check.BAD);
        check.due("finds(0)", x.finds(0), Check.BAD);
        check.due("asks(0, 1, 1, 0)", x.asks(0, 1, 1, 0), Check.NONE);
        check.due("asks(0, 2, 1, 0)", x.asks(0, 2, 1, 0), Check.BAD);
        check.due("worst()", x.worst(), Check.NONE);
        check.due("unseen()", x.unseen(), 0);
        check.due("forget()", x.forget(), 0);
        check.due("clear()", x.clear(), 0);
        check.due("plan()", x.plan(), 0);
        ContactWays y = new ContactWays();
        check.due("sends(1, 1, 1, 0, 0) without a plan", y.sends(1, 1, 1, 0, 0), 0);
        check.due("another object's count(2)", x.count(2), 0);
    }

    private static void type() {
        check.about("promise 2");
        ContactWays x = new ContactWays();
        check.due("type(-1)", x.type(-1), Check.BAD);
        check.due("type(256)", x.type(256), Check.BAD);
        check.due("type(min)", x.type(Integer.MIN_VALUE), Check.BAD);
        check.due("count(7)", x.count(7), 0);
        check.due("type(0)", x.type(0), 1);
        check.due("type(255)", x.type(255), 2);
        for (int length = 3; length <= 150; length++) {
            check.due("type(32)", x.type(32), length);
        }
        check.due("type(32) at 150", x.type(32), Check.FULL);
        check.due("type(256) at 150", x.type(256), Check.BAD);
        check.due("count(7)", x.count(7), 150);
    }

    private static void clear() {
        check.about("promise 3");
        ContactWays x = new ContactWays();
        Check.type(x, "what");
        check.due("clear()", x.clear(), 4);
        check.due("clear() again", x.clear(), 0);
        check.due("count(7)", x.count(7), 0);
        Check.type(x, "n5;");
        check.due("plan()", x.plan(), 1);
        check.due("count(0)", x.count(0), 5);
    }

    private static void plans(String text, int want) {
        ContactWays x = new ContactWays();
        Check.type(x, text);
        check.due("plan() of '" + text + "'", x.plan(), want);
        check.due("count(7) after '" + text + "'", x.count(7), want < 0 ? text.length() : 0);
    }

    private static void goodTexts() {
        check.about("promise 4");
        plans("", 0);
        plans("   ", 0);
        plans("n2;", 1);
        plans("n6;", 1);
        plans("  n 6  ;  ", 1);
        plans("c0 1 0 1 1 0;", 1);
        plans(" c 1 0 98 99 9 9 ; ", 1);
        plans("n3;c0 2 0 99 1 0;", 2);
        plans("n3;c2 1 10 20 1 0;c1 2 9 10 3 4;", 3);
        plans(EIGHT, 8);
        plans("n2;" + EIGHT + "   ", 9);
        plans(" ".repeat(150), 0);
        plans("n2;" + " ".repeat(147), 1);
    }

    private static void faulty(String text, int fault) {
        plans(text, -10 - fault);
    }

    private static void faults() {
        check.about("promise 4, faults");
        faulty("x", 0);
        faulty("  x", 2);
        faulty(";", 0);
        faulty("5", 0);
        faulty("N2;", 0);
        faulty("n", 1);
        faulty("n  ", 3);
        faulty("n;", 1);
        faulty("nn", 1);
        faulty("n c", 2);
        faulty("n1;", 1);
        faulty("n7;", 1);
        faulty("n02;", 1);
        faulty("n 0;", 2);
        faulty("n100;", 1);
        faulty("n99999999999999999999999;", 1);
        faulty("n4294967298;", 1);
        faulty("n2", 2);
        faulty("n2 ", 3);
        faulty("n2 3;", 3);
        faulty("n2c", 2);
        faulty("n2;n3;", 3);
        faulty("n2;;", 3);
        faulty("n2;5", 3);
        faulty("c0 1 0 1 1 0;n2;", 13);
        faulty("c", 1);
        faulty("c;", 1);
        faulty("c00 1 0 1 1 0;", 1);
        faulty("c01 0 1 1 0;", 1);
        faulty("c-1 0 1 1 0;", 1);
        faulty("c2 1 0 1 1 0;", 1);
        faulty("c0", 2);
        faulty("c0,1", 2);
        faulty("c0\t1", 2);
        faulty("c0 \u00e9", 3);
        faulty("c0 0 1 2 1 0;", 3);
        faulty("c1 1 1 2 1 0;", 3);
        faulty("c0 2 0 1 1 0;", 3);
        faulty("n3;c0 3 0 1 1 0;", 6);
        faulty("n3;c3 0 0 1 1 0;", 4);
        faulty("c0 1 99 99 1 0;", 5);
        faulty("c0 1 98 98 1 0;", 8);
        faulty("c0 1 5 5 1 0;", 7);
        faulty("c0 1 5 4 1 0;", 7);
        faulty("c0 1 5 06 1 0;", 7);
        faulty("c0 1 0 100 1 0;", 7);
        faulty("c0 1 0 1 0 0;", 9);
        faulty("c0 1 0 1 10 0;", 9);
        faulty("c0 1 0 1 1 10;", 11);
        faulty("c0 1 0 1 1 00;", 11);
        faulty("c0 1 0 1 1;", 10);
        faulty("c0 1 0 1 1 c", 11);
        faulty("c0 1 0 1 1 0", 12);
        faulty("c0 1 0 1 1 0  ", 14);
        faulty("c0 1 0 1 1 0 0;", 13);
        faulty("c0 1 0 1 1 0c", 12);
        faulty("c0 1 5 5", 7);
        faulty(EIGHT + "c", 104);
        faulty(EIGHT + " c0 1 0 1 1 0;", 105);
        faulty(EIGHT + "n", 104);
        faulty("n" + " ".repeat(149), 150);
        faulty(EIGHT.substring(0, 100), 100);
    }

    private static void faultChangesNothing() {
        check.about("promise 4, a fault changes nothing");
        ContactWays x = Check.planned("n3;c0 1 0 9 2 3;");
        x.sends(0, 1, 4, 50, 1);
        x.passes(1);
        x.sees(0, 1, 7);
        x.keep(1);
        String before = Check.state(x);
        Check.type(x, "n4;c0 3 0 9 1 0;c0 0");
        check.due("plan()", x.plan(), -10 - 19);
        check.due("count(7)", x.count(7), 20);
        check.due("state", Check.state(x), before);
        check.due("count(0)", x.count(0), 3);
        check.due("count(1)", x.count(1), 1);
        check.due("contact(0, 1)", x.contact(0, 1), 1);
        check.due("count(6)", x.count(6), 1);
        check.due("plan() again", x.plan(), -10 - 19);
        check.due("back(1)", x.back(1), 1);
    }

    private static void planStartsAnew() {
        check.about("promise 4, a plan starts anew");
        ContactWays x = Check.planned("n3;c0 1 0 9 2 3;c1 2 0 9 1 0;");
        x.sends(0, 1, 4, 50, 1);
        x.passes(1);
        x.misses(1);
        x.sees(0, 1, 7);
        x.keep(0);
        x.keep(1);
        Check.type(x, "c1 0 3 4 5 6;c0 1 0 99 1 0;");
        check.due("plan()", x.plan(), 2);
        check.due("count(0)", x.count(0), 2);
        check.due("count(1)", x.count(1), 2);
        for (int what = 2; what <= 8; what++) {
            check.due("count(" + what + ")", x.count(what), 0);
        }
        check.due("contact(1, 6)", x.contact(1, 6), 0);
        check.due("contact(0, 0)", x.contact(0, 0), 1);
        check.due("back(0)", x.back(0), Check.STATE);
        check.due("back(1)", x.back(1), Check.STATE);
        check.due("undo()", x.undo(), Check.STATE);
        check.due("tick(1, 0)", x.tick(1, 0), Check.NONE);
        x.sends(0, 1, 1, 50, 1);
        x.drops(0);
        Check.type(x, "c0 1 0 9 1 0;");
        check.due("plan()", x.plan(), 1);
        check.due("nothing is left of a dropped bundle", x.sends(0, 1, 2, 9, 0), 2);
        check.due("its hops", Check.hops(x, 0), "0@0");
        check.due("plan() of nothing", x.plan(), 0);
        check.due("nothing is left of its hops", x.sends(0, 1, 2, 9, 0), Check.NONE);
        check.due("its hops", Check.hops(x, 0), "");
        check.due("count(1)", x.count(1), 0);
    }

    private static void contact() {
        check.about("promise 5");
        ContactWays x = Check.planned("n6;c5 4 3 27 9 8;c0 1 98 99 1 0;");
        int[] first = {5, 4, 3, 27, 9, 8, 0};
        int[] second = {0, 1, 98, 99, 1, 0, 0};
        for (int what = 0; what <= 6; what++) {
            check.due("contact(0, " + what + ")", x.contact(0, what), first[what]);
            check.due("contact(1, " + what + ")", x.contact(1, what), second[what]);
        }
        check.due("contact(0, -1)", x.contact(0, -1), Check.BAD);
        check.due("contact(0, 7)", x.contact(0, 7), Check.BAD);
        check.due("contact(-1, 0)", x.contact(-1, 0), Check.BAD);
        check.due("contact(2, 0)", x.contact(2, 0), Check.BAD);
        check.due("contact(8, 0)", x.contact(8, 0), Check.BAD);
        x.misses(1);
        check.due("contact(1, 6)", x.contact(1, 6), 1);
        check.due("contact(0, 6)", x.contact(0, 6), 0);
        x.finds(1);
        check.due("contact(1, 6)", x.contact(1, 6), 0);
    }
}
