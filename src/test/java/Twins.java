import java.util.ArrayList;
import java.util.List;
import java.util.function.Supplier;

/**
 * Objects that are made alike: one of them gets a call that must change nothing, and then both are
 * told by all that later calls can show. Each way of telling has objects of its own, as it may change
 * them, and as an object is used for at most 512 calls.
 */
final class Twins {
    /** A call on an object. */
    interface Call {
        int on(ContactWays x);
    }

    /** A call with one argument that is varied. */
    interface CallWith {
        int on(ContactWays x, int value);
    }

    private static final int QUESTIONS = 0, TICKS = 1, TEXT = 2, IMAGES = 3, ONWARD = 5, UNDONE = 6;
    private static final int WAYS_OF_TELLING = UNDONE + 9;

    private final Check check;
    private final Supplier<ContactWays> made;
    private final String[] untouched = new String[WAYS_OF_TELLING];

    Twins(Check check, Supplier<ContactWays> made) {
        this.check = check;
        this.made = made;
        for (int way = 0; way < WAYS_OF_TELLING; way++) {
            untouched[way] = told(made.get(), way);
        }
    }

    /** The call answers an error, and nothing that later calls show has changed. */
    void refuse(String name, int want, Call call) {
        check.due(name, call.on(made.get()), want);
        changesNothing(name, call);
    }

    /** The call is refused for all values outside, and on both sides of the bounds above all. */
    void refuseOutside(String name, int low, int high, CallWith call) {
        for (int value : outside(low, high)) {
            refuse(name + " " + value, Check.BAD, x -> call.on(x, value));
        }
    }

    /** Whatever the call answers, nothing that later calls show has changed. */
    void changesNothing(String name, Call call) {
        for (int way = 0; way < WAYS_OF_TELLING; way++) {
            ContactWays x = made.get();
            call.on(x);
            check.due("after " + name + " telling " + way, told(x, way), untouched[way]);
        }
    }

    /**
     * The values next to a range, the ends of int, and those that a good value would be taken for if
     * bits were lost.
     */
    static int[] outside(int low, int high) {
        List<Integer> values = new ArrayList<>();
        int[] tried = {low - 1, high + 1, Integer.MIN_VALUE, Integer.MAX_VALUE, low + 32, low + 64, low + 256,
            low + 65536, low + Integer.MIN_VALUE, -high - 1};
        for (int value : tried) {
            if ((value < low || value > high) && !values.contains(value)) {
                values.add(value);
            }
        }
        return values.stream().mapToInt(v -> v).toArray();
    }

    private static String told(ContactWays x, int way) {
        switch (way) {
            case QUESTIONS: return questions(x);
            case TICKS: return ticks(x);
            case TEXT: return text(x);
            case IMAGES:
            case IMAGES + 1: return "back " + x.back(way - IMAGES) + " " + Check.state(x) + " " + x.unseen();
            case ONWARD: return onward(x);
            default: return undone(x, way - UNDONE + 1);
        }
    }

    private static String questions(ContactWays x) {
        StringBuilder told = new StringBuilder(Check.state(x)).append(counts(x));
        int nodes = x.count(0);
        for (int node = 0; node < nodes; node++) {
            for (int goal = 0; goal < nodes; goal++) {
                for (int priority = 0; priority <= 2; priority++) {
                    told.append(' ').append(x.asks(node, goal, 1, priority));
                }
                told.append(' ').append(x.asks(node, goal, 5, 1)).append(' ').append(x.largest(node, goal, 0, 25));
            }
        }
        return told.append(" worst ").append(x.worst()).append(" unseen ").append(x.unseen()).toString();
    }

    private static String counts(ContactWays x) {
        StringBuilder told = new StringBuilder("counts");
        for (int what = 0; what <= 8; what++) {
            told.append(' ').append(x.count(what));
        }
        for (int c = 0; c < x.count(1); c++) {
            told.append(" contact");
            for (int what = 0; what <= 6; what++) {
                told.append(' ').append(x.contact(c, what));
            }
        }
        return told.append("; ").toString();
    }

    private static String ticks(ContactWays x) {
        StringBuilder told = new StringBuilder("ticks");
        for (int c = 0; c < x.count(1); c++) {
            int end = x.contact(c, 3);
            for (int t = Math.max(x.count(3), x.contact(c, 2)); t <= end; t++) {
                told.append(' ').append(x.tick(c, t));
            }
        }
        return told.toString();
    }

    /** The text is shown by its length, and by the plan that it is, a few bytes behind it. */
    private static String text(ContactWays x) {
        String told = "length " + x.count(7) + ", plan " + x.plan() + " " + counts(x);
        Check.type(x, "0;");
        return told + "plan " + x.plan() + " " + counts(x);
    }

    private static String onward(ContactWays x) {
        StringBuilder told = new StringBuilder("onward");
        for (int c = 0; c < x.count(1); c++) {
            told.append(' ').append(x.finds(c));
        }
        told.append(' ').append(x.sees(0, 1, 3)).append(' ').append(x.unseen());
        told.append(' ').append(x.sends(0, 1, 3, 99, 2)).append(' ').append(x.sends(0, 1, 3, 99, 2));
        told.append(' ').append(Check.state(x));
        told.append(' ').append(x.passes(3)).append(' ').append(Check.state(x));
        return told.append(' ').append(x.forget()).toString();
    }

    private static String undone(ContactWays x, int times) {
        StringBuilder told = new StringBuilder("undone");
        for (int k = 0; k < times; k++) {
            told.append(' ').append(x.undo());
        }
        return told.append(' ').append(Check.state(x)).append(' ').append(x.unseen()).toString();
    }

    static final String BUSY_PLAN = "n4;c0 1 0 9 1 0;c1 2 0 40 2 3;c0 2 30 60 3 2;c3 0 4 8 1 9;";
    static final String BUSY_TEXT = "n3;c2 0 1 2 3 4;";

    /**
     * An object with all that can change: bundles that stand in each way (3 is late, 4 is dropped), a
     * hop on its way, hops to come, a missed contact, two images, observations, a text, and as much to
     * undo as is kept. There is room for one bundle more.
     */
    static ContactWays busy() {
        ContactWays x = Check.planned(BUSY_PLAN);
        x.keep(1);
        x.sends(1, 1, 4, 9, 0);
        x.sends(3, 0, 3, 20, 1);
        x.sends(0, 2, 4, 90, 2);
        x.sends(0, 1, 2, 1, 0);
        x.sends(0, 2, 5, 90, 0);
        x.keep(0);
        x.sends(2, 3, 1, 99, 0);
        x.passes(2);
        x.drops(4);
        x.misses(2);
        x.sends(1, 2, 6, 50, 1);
        x.passes(3);
        x.sees(0, 1, 6);
        x.sees(0, 2, 121);
        Check.type(x, BUSY_TEXT);
        return x;
    }

    /** A busy object with no more room for bundles, observations or letters. */
    static ContactWays full() {
        ContactWays x = busy();
        x.sends(0, 2, 1, 60, 0);
        for (int k = 3; k <= 6; k++) {
            x.sees(0, 1, 6);
        }
        Check.type(x, " ".repeat(150 - BUSY_TEXT.length()));
        return x;
    }
}
