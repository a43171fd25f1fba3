import java.util.ArrayList;
import java.util.List;
import java.util.Random;

/**
 * All promises: runs of up to 512 random calls, each answered by the program and by the model. The
 * seeds are fixed; an argument gives another number of runs.
 */
public final class ModelTests {
    private static final int MOST_CALLS = 512;

    private final Random random;
    private final ContactWays x = new ContactWays();
    private final Model model = new Model();
    private final List<String> calls = new ArrayList<>();
    private boolean wrong = false;

    private ModelTests(long seed) {
        random = new Random(seed);
    }

    public static void main(String[] args) {
        int runs = args.length > 0 ? Integer.parseInt(args[0]) : 3000;
        int failures = 0;
        long calls = 0;
        for (int seed = 0; seed < runs && failures < 3; seed++) {
            ModelTests run = new ModelTests(seed);
            run.go();
            calls += run.calls.size();
            if (run.wrong) {
                failures++;
                System.out.println("seed " + seed + ":");
                run.calls.forEach(System.out::println);
            }
        }
        System.out.println(calls + " calls in " + runs + " runs, " + failures + " runs with a wrong answer");
        if (failures != 0) {
            System.exit(1);
        }
    }

    private void go() {
        int liveliness = random.nextInt(3);
        while (calls.size() < MOST_CALLS && !wrong) {
            if (calls.isEmpty() && random.nextInt(20) != 0 || random.nextInt(300) == 0) {
                typePlan();
            } else {
                call(liveliness);
            }
        }
    }

    private void due(String name, int got, int want, int... args) {
        StringBuilder told = new StringBuilder(name).append('(');
        for (int i = 0; i < args.length; i++) {
            told.append(i == 0 ? "" : ", ").append(args[i]);
        }
        told.append(") -> ").append(got);
        if (got != want) {
            wrong = true;
            told.append(", due is ").append(want);
        }
        calls.add(told.toString());
    }

    private void typePlan() {
        String text = planText();
        if (random.nextInt(4) == 0) {
            text = spoiled(text);
        }
        for (int i = 0; i < text.length() && calls.size() < MOST_CALLS; i++) {
            type(text.charAt(i));
        }
        if (calls.size() < MOST_CALLS) {
            due("plan", x.plan(), model.plan());
        }
    }

    private void type(int letter) {
        due("type", x.type(letter), model.type(letter), letter);
    }

    private String planText() {
        int nodes = 2 + random.nextInt(random.nextBoolean() ? 2 : 5);
        String text = nodes == 2 && random.nextBoolean() ? "" : "n" + blanks() + nodes + blanks() + ";";
        int contacts = random.nextInt(4) == 0 ? random.nextInt(9) : 5 + random.nextInt(4);
        int span = random.nextBoolean() ? 20 : 60;
        for (int c = 0; c < contacts; c++) {
            int from = random.nextInt(nodes);
            int to = (from + 1 + random.nextInt(nodes - 1)) % nodes;
            int start = random.nextInt(span);
            int end = Math.min(99, start + 1 + random.nextInt(random.nextBoolean() ? 10 : 40));
            int rate = 1 + random.nextInt(random.nextBoolean() ? 2 : 9);
            int light = random.nextBoolean() ? 0 : random.nextInt(10);
            text += "c" + blanks() + from + " " + to + " " + start + " " + end + " " + rate + " " + light
                    + blanks() + ";";
        }
        return text;
    }

    private String blanks() {
        return " ".repeat(random.nextInt(12) == 0 ? 1 + random.nextInt(2) : 0);
    }

    private String spoiled(String text) {
        int at = random.nextInt(text.length() + 1);
        String odd = "nc;0123456789 x\u00e9\0";
        String sign = random.nextInt(4) == 0 ? "" : "" + odd.charAt(random.nextInt(odd.length()));
        int skipped = Math.min(text.length(), at + random.nextInt(2));
        return text.substring(0, at) + sign + (random.nextInt(5) == 0 ? "" : text.substring(skipped));
    }

    /** A number from low to high, and at times one beside them or far off. */
    private int number(int low, int high) {
        int what = random.nextInt(400);
        if (what < 6) {
            int[] odd = {low - 1, high + 1, Integer.MIN_VALUE, Integer.MAX_VALUE, 1 << 30, low + 32};
            return odd[what];
        }
        return low + random.nextInt(Math.max(1, high - low + 1));
    }

    private int node() {
        return number(0, model.count(0) - 1);
    }

    private int contact() {
        return number(0, model.count(1) - 1);
    }

    private int bundle() {
        return number(0, model.count(2) - 1);
    }

    private int size() {
        return random.nextInt(3) == 0 ? number(1, 20) : number(1, 8);
    }

    private int deadline() {
        int later = Math.min(99, model.count(3) + random.nextInt(60));
        return random.nextInt(4) == 0 ? number(0, 99) : later;
    }

    private int ticks() {
        return random.nextInt(8) == 0 ? number(1, 99) : number(1, 4);
    }

    private void call(int liveliness) {
        int what = random.nextInt(100);
        if (what < 22 + 10 * liveliness) {
            act();
        } else if (what < 80) {
            look();
        } else {
            foresee();
        }
    }

    private void act() {
        int what = random.nextInt(100);
        if (what < 35) {
            int[] a = {node(), node(), size(), deadline(), number(0, 2)};
            due("sends", x.sends(a[0], a[1], a[2], a[3], a[4]), model.sends(a[0], a[1], a[2], a[3], a[4]), a);
        } else if (what < 50) {
            int a = ticks();
            due("passes", x.passes(a), model.passes(a), a);
        } else if (what < 62) {
            int a = contact();
            due("misses", x.misses(a), model.misses(a), a);
        } else if (what < 74) {
            int a = contact();
            due("finds", x.finds(a), model.finds(a), a);
        } else if (what < 78) {
            int a = bundle();
            due("drops", x.drops(a), model.drops(a), a);
        } else if (what < 92) {
            due("undo", x.undo(), model.undo());
        } else if (what < 96) {
            int a = number(0, 1);
            due("keep", x.keep(a), model.keep(a), a);
        } else {
            int a = number(0, 1);
            due("back", x.back(a), model.back(a), a);
        }
    }

    private void look() {
        int what = random.nextInt(100);
        if (what < 40) {
            int[] a = {bundle(), number(0, 8)};
            due("bundle", x.bundle(a[0], a[1]), model.bundle(a[0], a[1]), a);
        } else if (what < 65) {
            int[] a = {bundle(), number(0, 5), number(0, 1)};
            due("hop", x.hop(a[0], a[1], a[2]), model.hop(a[0], a[1], a[2]), a);
        } else if (what < 80) {
            int[] a = {contact(), number(model.count(3), Math.min(99, model.count(3) + 30))};
            due("tick", x.tick(a[0], a[1]), model.tick(a[0], a[1]), a);
        } else if (what < 95) {
            int a = number(0, 8);
            due("count", x.count(a), model.count(a), a);
        } else if (what < 98) {
            int[] a = {contact(), number(0, 6)};
            due("contact", x.contact(a[0], a[1]), model.contact(a[0], a[1]), a);
        } else if (what < 99) {
            type(number(0, 255));
        } else {
            due("clear", x.clear(), model.clear());
        }
    }

    private void foresee() {
        int what = random.nextInt(100);
        if (what < 35) {
            int[] a = {node(), node(), size(), number(0, 2)};
            due("asks", x.asks(a[0], a[1], a[2], a[3]), model.asks(a[0], a[1], a[2], a[3]), a);
        } else if (what < 50) {
            int[] a = {node(), node(), number(0, 2), number(0, 120)};
            due("largest", x.largest(a[0], a[1], a[2], a[3]), model.largest(a[0], a[1], a[2], a[3]), a);
        } else if (what < 60) {
            due("worst", x.worst(), model.worst());
        } else if (what < 80) {
            see();
        } else if (what < 95) {
            due("unseen", x.unseen(), model.unseen());
        } else {
            due("forget", x.forget(), model.forget());
        }
    }

    private void see() {
        int[] a = {node(), node(), number(0, 121)};
        boolean nodes = Math.min(a[0], a[1]) >= 0 && Math.max(a[0], a[1]) < model.count(0);
        if (nodes && a[0] != a[1] && random.nextInt(8) != 0) {
            a[2] = model.observed(a[0], a[1], contact());
        }
        due("sees", x.sees(a[0], a[1], a[2]), model.sees(a[0], a[1], a[2]), a);
    }
}
