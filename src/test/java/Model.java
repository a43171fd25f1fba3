import java.util.ArrayList;
import java.util.LinkedList;
import java.util.List;
import java.util.TreeSet;
import java.util.regex.Matcher;
import java.util.regex.Pattern;

/**
 * The document once more, word by word and without regard to speed: all hops that a bundle ever had
 * are kept, where it is follows from them and from now, and all ways are written out.
 */
final class Model {
    static final int BAD = -1, STATE = -2, FULL = -3, NONE = -9;

    private record Contact(int f, int t, int s, int e, int rate, int light) { }

    private record Hop(int c, int begin) { }

    private record Way(List<Hop> hops, int there) { }

    private record Seen(int node, int goal, int a) { }

    private static final class Bundle {
        int start, goal, size, deadline, priority, reason;
        boolean dropped;
        List<Hop> hops = new ArrayList<>();

        Bundle copy() {
            Bundle b = new Bundle();
            b.start = start;
            b.goal = goal;
            b.size = size;
            b.deadline = deadline;
            b.priority = priority;
            b.reason = reason;
            b.dropped = dropped;
            b.hops = new ArrayList<>(hops);
            return b;
        }
    }

    private static final class World {
        List<Bundle> bundles = new ArrayList<>();
        int now = 0;
        TreeSet<Integer> missed = new TreeSet<>();

        World copy() {
            World w = new World();
            for (Bundle b : bundles) {
                w.bundles.add(b.copy());
            }
            w.now = now;
            w.missed.addAll(missed);
            return w;
        }
    }

    private String text = "";
    private int nodes = 2;
    private List<Contact> contacts = new ArrayList<>();
    private World w = new World();
    private LinkedList<World> before = new LinkedList<>();
    private World[] images = new World[2];
    private List<Seen> seen = new ArrayList<>();

    int type(int letter) {
        if (letter < 0 || letter > 255) {
            return BAD;
        }
        if (text.length() == 150) {
            return FULL;
        }
        text += (char) letter;
        return text.length();
    }

    int clear() {
        int length = text.length();
        text = "";
        return length;
    }

    int plan() {
        List<Integer> at = new ArrayList<>();
        List<String> tokens = new ArrayList<>();
        Matcher m = Pattern.compile("[0-9]+|[^ ]", Pattern.DOTALL).matcher(text);
        while (m.find()) {
            at.add(m.start());
            tokens.add(m.group());
        }
        at.add(text.length());
        tokens.add("end");
        int newNodes = 2;
        int items = 0;
        List<Contact> read = new ArrayList<>();
        int k = 0;
        while (!tokens.get(k).equals("end")) {
            String item = tokens.get(k);
            boolean isN = item.equals("n") && items == 0;
            boolean isC = item.equals("c") && read.size() < 8;
            if (!isN && !isC) {
                return -10 - at.get(k);
            }
            k++;
            List<Integer> numbers = new ArrayList<>();
            for (int i = 0; i < (isN ? 1 : 6); i++) {
                String token = tokens.get(k);
                boolean fits = token.matches("0|[1-9][0-9]?");
                if (fits) {
                    int v = Integer.parseInt(token);
                    if (isN) {
                        fits = v >= 2 && v <= 6;
                    } else if (i == 0) {
                        fits = v < newNodes;
                    } else if (i == 1) {
                        fits = v < newNodes && v != numbers.get(0);
                    } else if (i == 2) {
                        fits = v <= 98;
                    } else if (i == 3) {
                        fits = v > numbers.get(2);
                    } else if (i == 4) {
                        fits = v >= 1 && v <= 9;
                    } else {
                        fits = v <= 9;
                    }
                    numbers.add(v);
                }
                if (!fits) {
                    return -10 - at.get(k);
                }
                k++;
            }
            if (!tokens.get(k).equals(";")) {
                return -10 - at.get(k);
            }
            k++;
            items++;
            if (isN) {
                newNodes = numbers.get(0);
            } else {
                read.add(new Contact(numbers.get(0), numbers.get(1), numbers.get(2), numbers.get(3),
                        numbers.get(4), numbers.get(5)));
            }
        }
        nodes = newNodes;
        contacts = read;
        text = "";
        w = new World();
        before.clear();
        images = new World[2];
        seen.clear();
        return items;
    }

    int contact(int c, int what) {
        if (c < 0 || c >= contacts.size() || what < 0 || what > 6) {
            return BAD;
        }
        Contact k = contacts.get(c);
        int missed = w.missed.contains(c) ? 1 : 0;
        return new int[] {k.f, k.t, k.s, k.e, k.rate, k.light, missed}[what];
    }

    // The words of the description.

    private int ticks(int size, Contact k) {
        int d = 0;
        while (d * k.rate < size) {
            d++;
        }
        return d;
    }

    private int there(Bundle b, Hop h) {
        Contact k = contacts.get(h.c);
        return h.begin + ticks(b.size, k) + k.light;
    }

    private boolean takes(Bundle b, Hop h, int c, int t) {
        return h.c == c && t >= h.begin && t < h.begin + ticks(b.size, contacts.get(c));
    }

    private boolean isOver(Bundle b, Hop h) {
        return there(b, h) <= w.now;
    }

    private boolean isOnItsWay(Bundle b, Hop h) {
        return !isOver(b, h) && h.begin < w.now;
    }

    private boolean isToCome(Bundle b, Hop h) {
        return !isOver(b, h) && h.begin >= w.now;
    }

    private List<Hop> present(Bundle b) {
        List<Hop> hops = new ArrayList<>(b.hops);
        hops.removeIf(h -> isOver(b, h));
        return hops;
    }

    private int node(Bundle b) {
        int node = b.start;
        for (Hop h : b.hops) {
            if (isOver(b, h)) {
                node = contacts.get(h.c).t;
            }
        }
        return node;
    }

    private int stands(Bundle b) {
        List<Hop> hops = present(b);
        if (node(b) == b.goal) {
            return 2;
        }
        if (b.dropped) {
            return 4;
        }
        if (w.now > b.deadline) {
            return 3;
        }
        if (!hops.isEmpty() && contacts.get(hops.get(hops.size() - 1).c).t == b.goal) {
            return 1;
        }
        return 0;
    }

    private boolean isFree(int c, int t, Bundle own, int priority, int unknown) {
        if (t < w.now || w.missed.contains(c) || c == unknown) {
            return false;
        }
        for (Bundle b : w.bundles) {
            for (Hop h : b.hops) {
                if (takes(b, h, c, t) && isOnItsWay(b, h)) {
                    return false;
                }
                if (takes(b, h, c, t) && isToCome(b, h) && b != own && b.priority >= priority) {
                    return false;
                }
            }
        }
        return true;
    }

    /** All ways to the goal that go on from these hops, the shorter and then the first ones first. */
    private void ways(int node, int at, int goal, int size, boolean[][] free, List<Hop> hops,
            List<Way> found) {
        if (hops.size() == 5) {
            return;
        }
        for (int c = 0; c < contacts.size(); c++) {
            Contact k = contacts.get(c);
            int d = ticks(size, k);
            if (k.f != node) {
                continue;
            }
            int begin = -1;
            for (int t = Math.max(at, k.s); begin < 0 && t + d <= k.e; t++) {
                boolean all = true;
                for (int u = t; u < t + d; u++) {
                    all &= free[c][u];
                }
                begin = all ? t : -1;
            }
            if (begin < 0) {
                continue;
            }
            List<Hop> more = new ArrayList<>(hops);
            more.add(new Hop(c, begin));
            if (k.t == goal) {
                found.add(new Way(more, begin + d + k.light));
            }
            ways(k.t, begin + d + k.light, goal, size, free, more, found);
        }
    }

    private static int compare(Way x, Way y) {
        if (x.there != y.there) {
            return Integer.compare(x.there, y.there);
        }
        if (x.hops.size() != y.hops.size()) {
            return Integer.compare(x.hops.size(), y.hops.size());
        }
        for (int i = 0; i < x.hops.size(); i++) {
            if (x.hops.get(i).c != y.hops.get(i).c) {
                return Integer.compare(x.hops.get(i).c, y.hops.get(i).c);
            }
        }
        return 0;
    }

    private Way bestWay(int node, int at, int goal, int size, Bundle own, int priority, int unknown) {
        boolean[][] free = new boolean[contacts.size()][100];
        for (int c = 0; c < contacts.size(); c++) {
            for (int t = 0; t < 100; t++) {
                free[c][t] = isFree(c, t, own, priority, unknown);
            }
        }
        List<Way> found = new ArrayList<>();
        ways(node, at, goal, size, free, new ArrayList<>(), found);
        return found.stream().min(Model::compare).orElse(null);
    }

    private void giveUp(Bundle b) {
        b.hops.removeIf(h -> isToCome(b, h));
    }

    /** Returns the bundles that are pushed out. */
    private List<Bundle> plan(Bundle b) {
        giveUp(b);
        List<Hop> onItsWay = present(b);
        int node = node(b);
        int at = w.now;
        if (!onItsWay.isEmpty()) {
            node = contacts.get(onItsWay.get(0).c).t;
            at = there(b, onItsWay.get(0));
        }
        List<Bundle> out = new ArrayList<>();
        if (node == b.goal) {
            return out;
        }
        Way way = bestWay(node, at, b.goal, b.size, b, b.priority, -1);
        if (way == null || way.there > b.deadline) {
            b.reason = way == null ? 0 : 1;
            return out;
        }
        b.hops.addAll(way.hops);
        for (Bundle o : w.bundles) {
            boolean hit = false;
            for (Hop h : o.hops) {
                for (Hop g : way.hops) {
                    for (int t = 0; t < 100; t++) {
                        hit |= isToCome(o, h) && takes(o, h, g.c, t) && takes(b, g, g.c, t);
                    }
                }
            }
            if (hit && o.priority < b.priority) {
                giveUp(o);
                out.add(o);
            }
        }
        return out;
    }

    private void planSet(List<Bundle> set) {
        while (!set.isEmpty()) {
            Bundle next = null;
            for (Bundle b : w.bundles) {
                if (set.contains(b) && (next == null || b.priority > next.priority)) {
                    next = b;
                }
            }
            set.remove(next);
            for (Bundle o : plan(next)) {
                if (!set.contains(o)) {
                    set.add(o);
                }
            }
        }
    }

    private List<Bundle> standing(int how) {
        List<Bundle> set = new ArrayList<>();
        for (Bundle b : w.bundles) {
            if (stands(b) == how) {
                set.add(b);
            }
        }
        return set;
    }

    private void remember() {
        before.addLast(w.copy());
        if (before.size() > 8) {
            before.removeFirst();
        }
    }

    private boolean isNode(int node) {
        return node >= 0 && node < nodes;
    }

    // Actions.

    int sends(int node, int goal, int size, int deadline, int priority) {
        if (!isNode(node) || !isNode(goal) || size < 1 || size > 20 || deadline < 0 || deadline > 99
                || priority < 0 || priority > 2) {
            return BAD;
        }
        if (w.bundles.size() == 8) {
            return FULL;
        }
        remember();
        Bundle b = new Bundle();
        b.start = node;
        b.goal = goal;
        b.size = size;
        b.deadline = deadline;
        b.priority = priority;
        w.bundles.add(b);
        if (stands(b) != 2 && stands(b) != 3) {
            planSet(new ArrayList<>(List.of(b)));
        }
        if (stands(b) == 2) {
            return w.now;
        }
        return stands(b) == 1 ? there(b, b.hops.get(b.hops.size() - 1)) : NONE;
    }

    int drops(int b) {
        if (b < 0 || b >= w.bundles.size()) {
            return BAD;
        }
        if (stands(w.bundles.get(b)) >= 2) {
            return STATE;
        }
        remember();
        w.bundles.get(b).dropped = true;
        giveUp(w.bundles.get(b));
        return 1;
    }

    int passes(int ticks) {
        if (ticks < 1 || ticks > 99) {
            return BAD;
        }
        if (w.now + ticks > 99) {
            return STATE;
        }
        remember();
        w.now += ticks;
        return w.now;
    }

    int misses(int c) {
        if (c < 0 || c >= contacts.size()) {
            return BAD;
        }
        if (w.missed.contains(c)) {
            return STATE;
        }
        remember();
        return loss(c);
    }

    private int loss(int c) {
        w.missed.add(c);
        List<Bundle> lost = new ArrayList<>();
        for (Bundle b : w.bundles) {
            int had = b.hops.size();
            b.hops.removeIf(h -> h.c == c && isToCome(b, h));
            b.hops.removeIf(h -> {
                boolean taken = false;
                for (int t = w.now; t < 100; t++) {
                    taken |= takes(b, h, c, t);
                }
                return taken && isOnItsWay(b, h);
            });
            if (b.hops.size() < had) {
                lost.add(b);
            }
        }
        for (Bundle b : lost) {
            giveUp(b);
        }
        lost.removeIf(b -> stands(b) >= 2);
        planSet(lost);
        return standing(0).size();
    }

    int finds(int c) {
        if (c < 0 || c >= contacts.size()) {
            return BAD;
        }
        if (!w.missed.contains(c)) {
            return STATE;
        }
        remember();
        w.missed.remove(c);
        planSet(standing(0));
        return standing(0).size();
    }

    int undo() {
        if (before.isEmpty()) {
            return STATE;
        }
        w = before.removeLast();
        return before.size();
    }

    // Questions.

    int bundle(int b, int what) {
        if (b < 0 || b >= w.bundles.size() || what < 0 || what > 8) {
            return BAD;
        }
        Bundle x = w.bundles.get(b);
        List<Hop> hops = present(x);
        int end = hops.isEmpty() ? NONE : there(x, hops.get(hops.size() - 1));
        int why = stands(x) == 0 ? x.reason : NONE;
        return new int[] {stands(x), node(x), end, hops.size(), x.priority, x.size, x.deadline, x.goal,
            why}[what];
    }

    int hop(int b, int k, int what) {
        if (b < 0 || b >= w.bundles.size() || k < 0 || what < 0 || what > 1) {
            return BAD;
        }
        List<Hop> hops = present(w.bundles.get(b));
        if (k >= hops.size()) {
            return NONE;
        }
        return what == 0 ? hops.get(k).c : hops.get(k).begin;
    }

    int tick(int c, int t) {
        if (c < 0 || c >= contacts.size() || t < w.now || t > 99) {
            return BAD;
        }
        for (int b = 0; b < w.bundles.size(); b++) {
            for (Hop h : w.bundles.get(b).hops) {
                if (takes(w.bundles.get(b), h, c, t)) {
                    return b;
                }
            }
        }
        return NONE;
    }

    int asks(int node, int goal, int size, int priority) {
        return asks(node, goal, size, priority, -1);
    }

    private int asks(int node, int goal, int size, int priority, int unknown) {
        if (!isNode(node) || !isNode(goal) || size < 1 || size > 20 || priority < 0 || priority > 2) {
            return BAD;
        }
        if (node == goal) {
            return w.now;
        }
        Way way = bestWay(node, w.now, goal, size, null, priority, unknown);
        return way == null ? NONE : way.there;
    }

    int largest(int node, int goal, int priority, int by) {
        if (!isNode(node) || !isNode(goal) || priority < 0 || priority > 2 || by < 0 || by > 120) {
            return BAD;
        }
        int answer = NONE;
        for (int size = 1; size <= 20; size++) {
            int tick = asks(node, goal, size, priority);
            if (tick != NONE && tick <= by) {
                answer = size;
            }
        }
        return answer;
    }

    int worst() {
        int answer = NONE;
        int most = -1;
        for (int c = 0; c < contacts.size(); c++) {
            if (!w.missed.contains(c)) {
                World kept = w;
                w = kept.copy();
                int waiting = loss(c);
                w = kept;
                if (waiting > most) {
                    answer = c;
                    most = waiting;
                }
            }
        }
        return answer;
    }

    int sees(int node, int goal, int a) {
        if (!isNode(node) || !isNode(goal) || node == goal || a < 0 || a > 121) {
            return BAD;
        }
        if (seen.size() == 6) {
            return FULL;
        }
        seen.add(new Seen(node, goal, a));
        return seen.size();
    }

    int forget() {
        int had = seen.size();
        seen.clear();
        return had;
    }

    int unseen() {
        int set = 0;
        for (int c = 0; c < contacts.size(); c++) {
            boolean all = !w.missed.contains(c);
            for (Seen s : seen) {
                all = all && asks(s.node, s.goal, 1, 2, c) == (s.a == 121 ? NONE : s.a);
            }
            set |= all ? 1 << c : 0;
        }
        return set;
    }

    int keep(int image) {
        if (image < 0 || image > 1) {
            return BAD;
        }
        images[image] = w.copy();
        return w.bundles.size();
    }

    int back(int image) {
        if (image < 0 || image > 1) {
            return BAD;
        }
        if (images[image] == null) {
            return STATE;
        }
        w = images[image].copy();
        before.clear();
        return w.bundles.size();
    }

    int count(int what) {
        if (what < 0 || what > 8) {
            return BAD;
        }
        return new int[] {nodes, contacts.size(), w.bundles.size(), w.now, standing(0).size(),
            standing(1).size(), seen.size(), text.length(), before.size()}[what];
    }

    /** What an observation would be if a contact were the unknown one. */
    int observed(int node, int goal, int unknown) {
        int tick = asks(node, goal, 1, 2, unknown);
        return tick == NONE ? 121 : tick;
    }
}
