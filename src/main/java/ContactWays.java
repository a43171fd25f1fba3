/**
 * Contact graph routing in a delay-tolerant network. The promises that the methods keep, and the
 * words that the comments use, are those of the document.
 */
public final class ContactWays {
    public static final int BAD = -1, STATE = -2, FULL = -3, NONE = -9;

    private static final int FEWEST_NODES = 2, MOST_NODES = 6;
    private static final int MOST_CONTACTS = 8;
    private static final int MOST_BUNDLES = 8;
    private static final int MOST_OBSERVATIONS = 6;
    private static final int MOST_UNDOS = 8;
    private static final int LONGEST_TEXT = 150;
    private static final int LONGEST_WAY = 5;
    // A bundle can have a hop on its way and a whole way behind it.
    private static final int MOST_HOPS = LONGEST_WAY + 1;

    private static final int LAST_TICK = 99;
    private static final int LAST_SEEN_TICK = 120, SEEN_NO_WAY = 121;
    // Later than any tick: the windows end at 99, and the light time adds at most 9.
    private static final int NEVER = 1000;
    private static final int LARGEST_SIZE = 20;
    private static final int TOP_PRIORITY = 2;
    private static final int NO_CONTACT = -1;
    private static final int FAULT_BASE = -10;

    // How a bundle stands.
    private static final int WAITS = 0, BOOKED = 1, THROUGH = 2, LATE = 3, DROPPED = 4;
    // Why a bundle waits.
    private static final int NO_WAY = 0, TOO_LATE = 1;
    // The columns of a table of hops: END is the tick behind the last one that the hop takes,
    // THERE the tick in which the bundle is at the other node.
    private static final int CONTACT = 0, BEGIN = 1, END = 2, THERE = 3, HOP_PARTS = 4;
    // The columns of the table of observations.
    private static final int SEEN_FROM = 0, SEEN_GOAL = 1, SEEN_TICK = 2, OBSERVATION_PARTS = 3;

    private final Text text;
    private final PlanReader reader;
    private final Network network;
    private final Router router;
    private final Planner planner;
    private final Situation present;
    private final Situation trial;
    private final History history;
    private final Situation firstImage;
    private final Situation secondImage;
    private final Table observations;
    private int savedImages;

    public ContactWays() {
        text = new Text();
        reader = new PlanReader(text);
        network = new Network();
        router = new Router(network);
        planner = new Planner(router);
        present = new Situation(network);
        trial = new Situation(network);
        history = new History(network);
        firstImage = new Situation(network);
        secondImage = new Situation(network);
        observations = new Table(MOST_OBSERVATIONS, OBSERVATION_PARTS);
        savedImages = 0;
    }

    public int type(int letter) {
        if (!isWithin(letter, 0, 255)) {
            return BAD;
        }
        if (text.isFull()) {
            return FULL;
        }
        text.append(letter);
        return text.length;
    }

    public int clear() {
        int length = text.length;
        text.empty();
        return length;
    }

    public int plan() {
        int answer = reader.readPlan();
        if (answer >= 0) {
            network.copyFrom(reader.draft);
            text.empty();
            present.reset();
            history.forgetAll();
            savedImages = 0;
            observations.cut(0);
        }
        return answer;
    }

    public int contact(int c, int what) {
        if (!network.hasContact(c) || !isWithin(what, 0, 6)) {
            return BAD;
        }
        if (what == 6) {
            return present.isMissed(c) ? 1 : 0;
        }
        return network.contactAt(c).property(what);
    }

    public int sends(int node, int goal, int size, int deadline, int priority) {
        if (!isSendable(node, goal, size, priority) || !isWithin(deadline, 0, LAST_TICK)) {
            return BAD;
        }
        if (present.bundleCount >= MOST_BUNDLES) {
            return FULL;
        }
        history.remember(present);
        int b = present.addBundle();
        present.bundleAt(b).start(node, goal, size, deadline, priority);
        if (present.isOpen(b)) {
            planner.planAll(present, 1 << b);
        }
        return present.tickAtGoal(b);
    }

    public int drops(int b) {
        if (!present.hasBundle(b)) {
            return BAD;
        }
        if (!present.isOpen(b)) {
            return STATE;
        }
        history.remember(present);
        present.bundleAt(b).drop(present.now);
        return 1;
    }

    public int passes(int ticks) {
        if (!isWithin(ticks, 1, LAST_TICK)) {
            return BAD;
        }
        if (present.now + ticks > LAST_TICK) {
            return STATE;
        }
        history.remember(present);
        present.advance(ticks);
        return present.now;
    }

    public int misses(int c) {
        if (!network.hasContact(c)) {
            return BAD;
        }
        if (present.isMissed(c)) {
            return STATE;
        }
        history.remember(present);
        planner.planAll(present, present.lose(c));
        return present.countStanding(WAITS);
    }

    public int finds(int c) {
        if (!network.hasContact(c)) {
            return BAD;
        }
        if (!present.isMissed(c)) {
            return STATE;
        }
        history.remember(present);
        planner.planAll(present, present.regain(c));
        return present.countStanding(WAITS);
    }

    public int undo() {
        if (history.kept == 0) {
            return STATE;
        }
        history.takeBack(present);
        return history.kept;
    }

    public int bundle(int b, int what) {
        if (!present.hasBundle(b) || !isWithin(what, 0, 8)) {
            return BAD;
        }
        return present.bundleAt(b).property(what, present.now);
    }

    public int hop(int b, int k, int what) {
        if (!present.hasBundle(b) || k < 0 || !isWithin(what, 0, 1)) {
            return BAD;
        }
        return present.bundleAt(b).hops.at(k, what == 0 ? CONTACT : BEGIN);
    }

    public int tick(int c, int t) {
        if (!network.hasContact(c) || !isWithin(t, present.now, LAST_TICK)) {
            return BAD;
        }
        return present.takerOf(c, t);
    }

    public int asks(int node, int goal, int size, int priority) {
        if (!isSendable(node, goal, size, priority)) {
            return BAD;
        }
        router.lookAt(present, priority);
        return predict(node, goal, size, NO_CONTACT);
    }

    public int largest(int node, int goal, int priority, int by) {
        if (!isSendable(node, goal, 1, priority) || !isWithin(by, 0, LAST_SEEN_TICK)) {
            return BAD;
        }
        router.lookAt(present, priority);
        for (int size = LARGEST_SIZE; size >= 1; size--) {
            int there = predict(node, goal, size, NO_CONTACT);
            if (there != NONE && there <= by) {
                return size;
            }
        }
        return NONE;
    }

    public int worst() {
        int answer = NONE;
        int most = -1;
        for (int c = 0; c < network.contactCount; c++) {
            if (!present.isMissed(c)) {
                trial.copyFrom(present);
                planner.planAll(trial, trial.lose(c));
                int waiting = trial.countStanding(WAITS);
                if (waiting > most) {
                    most = waiting;
                    answer = c;
                }
            }
        }
        return answer;
    }

    public int sees(int node, int goal, int a) {
        if (!network.hasNode(node) || !network.hasNode(goal) || node == goal
                || !isWithin(a, 0, SEEN_NO_WAY)) {
            return BAD;
        }
        if (observations.rows >= MOST_OBSERVATIONS) {
            return FULL;
        }
        int row = observations.addRow();
        observations.put(row, SEEN_FROM, node);
        observations.put(row, SEEN_GOAL, goal);
        observations.put(row, SEEN_TICK, a);
        return observations.rows;
    }

    public int forget() {
        int rows = observations.rows;
        observations.cut(0);
        return rows;
    }

    public int unseen() {
        router.lookAt(present, TOP_PRIORITY);
        int answer = 0;
        for (int c = 0; c < network.contactCount; c++) {
            if (!present.isMissed(c) && explainsAll(c)) {
                answer |= 1 << c;
            }
        }
        return answer;
    }

    public int keep(int image) {
        if (!isWithin(image, 0, 1)) {
            return BAD;
        }
        imageAt(image).copyFrom(present);
        savedImages |= 1 << image;
        return present.bundleCount;
    }

    public int back(int image) {
        if (!isWithin(image, 0, 1)) {
            return BAD;
        }
        if ((savedImages >> image & 1) == 0) {
            return STATE;
        }
        present.copyFrom(imageAt(image));
        history.forgetAll();
        return present.bundleCount;
    }

    public int count(int what) {
        switch (what) {
            case 0: return network.nodes;
            case 1: return network.contactCount;
            case 2: return present.bundleCount;
            case 3: return present.now;
            case 4: return present.countStanding(WAITS);
            case 5: return present.countStanding(BOOKED);
            case 6: return observations.rows;
            case 7: return text.length;
            case 8: return history.kept;
            default: return BAD;
        }
    }

    private static boolean isWithin(int value, int low, int high) {
        return value >= low && value <= high;
    }

    private boolean isSendable(int node, int goal, int size, int priority) {
        return network.hasNode(node) && network.hasNode(goal)
                && isWithin(size, 1, LARGEST_SIZE) && isWithin(priority, 0, TOP_PRIORITY);
    }

    /** Answers for a bundle sent now, with the free ticks that the router looked at last. */
    private int predict(int node, int goal, int size, int without) {
        if (node == goal) {
            return present.now;
        }
        return router.seek(node, present.now, goal, size, without);
    }

    /** Tells whether all observations are true if the contact is the unknown one. */
    private boolean explainsAll(int c) {
        for (int row = 0; row < observations.rows; row++) {
            int seen = observations.at(row, SEEN_TICK);
            int due = seen == SEEN_NO_WAY ? NONE : seen;
            int node = observations.at(row, SEEN_FROM);
            if (predict(node, observations.at(row, SEEN_GOAL), 1, c) != due) {
                return false;
            }
        }
        return true;
    }

    private Situation imageAt(int image) {
        return image == 0 ? firstImage : secondImage;
    }

    /**
     * Rows of numbers. A cell that is not there reads as NONE and takes nothing, so that no caller
     * can leave the array.
     */
    private static final class Table {
        private final int columns;
        private final int[] cells;
        private int rows;

        Table(int mostRows, int columns) {
            this.columns = columns;
            cells = new int[Math.max(mostRows * columns, 0)];
            rows = 0;
        }

        int at(int row, int column) {
            int cell = row * columns + column;
            if (row < 0 || row >= rows || column < 0 || column >= columns
                    || cell < 0 || cell >= cells.length) {
                return NONE;
            }
            return cells[cell];
        }

        void put(int row, int column, int value) {
            int cell = row * columns + column;
            if (row >= 0 && row < rows && column >= 0 && column < columns
                    && cell >= 0 && cell < cells.length) {
                cells[cell] = value;
            }
        }

        /** Returns the new row's index, or -1 if the table is full. */
        int addRow() {
            if ((rows + 1) * columns > cells.length) {
                return -1;
            }
            rows++;
            return rows - 1;
        }

        /** Leaves at most the first rows. */
        void cut(int most) {
            rows = Math.max(0, Math.min(rows, most));
        }

        void removeFirstRow() {
            for (int row = 1; row < rows; row++) {
                for (int column = 0; column < columns; column++) {
                    put(row - 1, column, at(row, column));
                }
            }
            cut(rows - 1);
        }

        void copyFrom(Table other) {
            rows = 0;
            appendFrom(other);
        }

        void appendFrom(Table other) {
            for (int row = 0; row < other.rows; row++) {
                int added = addRow();
                for (int column = 0; column < columns; column++) {
                    put(added, column, other.at(row, column));
                }
            }
        }
    }

    /** The bytes that were typed. */
    private static final class Text {
        private final int[] bytes;
        private int length;

        Text() {
            bytes = new int[LONGEST_TEXT];
            length = 0;
        }

        boolean isFull() {
            return length >= bytes.length;
        }

        void append(int value) {
            if (length >= 0 && length < bytes.length) {
                bytes[length] = value;
                length++;
            }
        }

        void empty() {
            length = 0;
        }

        /** Returns NONE behind the end, which is no byte and so cannot stand anywhere. */
        int byteAt(int position) {
            if (position < 0 || position >= length || position >= bytes.length) {
                return NONE;
            }
            return bytes[position];
        }
    }

    /** A window of time in which one node can send to another. */
    private static final class Contact {
        private final int from;
        private final int to;
        private final int start;
        private final int end;
        private final int rate;
        private final int light;

        Contact(int from, int to, int start, int end, int rate, int light) {
            this.from = from;
            this.to = to;
            this.start = start;
            this.end = end;
            this.rate = rate;
            this.light = light;
        }

        int ticksFor(int size) {
            return rate < 1 ? NEVER : (size + rate - 1) / rate;
        }

        int property(int what) {
            switch (what) {
                case 0: return from;
                case 1: return to;
                case 2: return start;
                case 3: return end;
                case 4: return rate;
                case 5: return light;
                default: return BAD;
            }
        }
    }

    /** The nodes and contacts of a plan. */
    private static final class Network {
        // Stands in for a contact that is not there: it leads nowhere and is never open.
        private final Contact nowhere;
        private final Contact[] contacts;
        private int contactCount;
        private int nodes;

        Network() {
            nowhere = new Contact(NONE, NONE, 0, 0, 1, 0);
            contacts = new Contact[MOST_CONTACTS];
            contactCount = 0;
            nodes = FEWEST_NODES;
        }

        void reset() {
            contactCount = 0;
            nodes = FEWEST_NODES;
        }

        boolean hasNode(int node) {
            return node >= 0 && node < nodes;
        }

        boolean hasContact(int c) {
            return c >= 0 && c < contactCount;
        }

        boolean hasRoom() {
            return contactCount < contacts.length;
        }

        void addContact(Contact added) {
            if (contactCount >= 0 && contactCount < contacts.length) {
                contacts[contactCount] = added;
                contactCount++;
            }
        }

        Contact contactAt(int c) {
            if (c < 0 || c >= contactCount || c >= contacts.length) {
                return nowhere;
            }
            Contact found = contacts[c];
            return found == null ? nowhere : found;
        }

        void copyFrom(Network other) {
            nodes = other.nodes;
            contactCount = 0;
            for (int c = 0; c < other.contactCount; c++) {
                addContact(other.contactAt(c));
            }
        }
    }

    /** Reads a text into a draft, so that a fault leaves the present network as it is. */
    private static final class PlanReader {
        private static final int NO_FAULT = -1;
        private static final int ANY = -1;
        // Numbers are read no further than to this one, which is out of every range.
        private static final int TOO_GREAT = 100;

        private final Text text;
        private final Network draft;
        private int position;
        private int fault;

        PlanReader(Text text) {
            this.text = text;
            draft = new Network();
            position = 0;
            fault = NO_FAULT;
        }

        /** Returns the number of items, or -10 minus the fault. */
        int readPlan() {
            draft.reset();
            position = 0;
            fault = NO_FAULT;
            int items = 0;
            skipBlanks();
            while (items < LONGEST_TEXT && position < text.length && fault == NO_FAULT) {
                readItem(items == 0);
                items++;
                skipBlanks();
            }
            return fault == NO_FAULT ? items : FAULT_BASE - fault;
        }

        private void readItem(boolean isFirst) {
            int letter = text.byteAt(position);
            if (letter == 'n' && isFirst) {
                position++;
                readNodes();
            } else if (letter == 'c' && draft.hasRoom()) {
                position++;
                readContact();
            } else {
                blame(position);
            }
        }

        private void readNodes() {
            int nodes = readNumber(FEWEST_NODES, MOST_NODES, ANY);
            readSemicolon();
            if (fault == NO_FAULT) {
                draft.nodes = nodes;
            }
        }

        private void readContact() {
            int from = readNumber(0, draft.nodes - 1, ANY);
            int to = readNumber(0, draft.nodes - 1, from);
            int start = readNumber(0, 98, ANY);
            int end = readNumber(start + 1, 99, ANY);
            int rate = readNumber(1, 9, ANY);
            int light = readNumber(0, 9, ANY);
            readSemicolon();
            if (fault == NO_FAULT) {
                draft.addContact(new Contact(from, to, start, end, rate, light));
            }
        }

        private int readNumber(int low, int high, int barred) {
            skipBlanks();
            int first = position;
            int value = 0;
            while (position < text.length && isDigit(text.byteAt(position))) {
                value = Math.min(value * 10 + text.byteAt(position) - '0', TOO_GREAT);
                position++;
            }
            boolean zeroAhead = position - first > 1 && text.byteAt(first) == '0';
            if (position == first || zeroAhead || !isWithin(value, low, high) || value == barred) {
                blame(first);
            }
            return value;
        }

        private void readSemicolon() {
            skipBlanks();
            if (text.byteAt(position) == ';') {
                position++;
            } else {
                blame(position);
            }
        }

        private void skipBlanks() {
            while (position < text.length && text.byteAt(position) == ' ') {
                position++;
            }
        }

        private static boolean isDigit(int letter) {
            return letter >= '0' && letter <= '9';
        }

        /** Only the first fault counts: reading goes on to the end of the item behind it. */
        private void blame(int at) {
            if (fault == NO_FAULT) {
                fault = at;
            }
        }
    }

    /** A bundle, at the node from which its first hop leads. */
    private static final class Bundle {
        private final Network network;
        // The hop on its way, if there is one, and then those to come; hops leave when it is there.
        private final Table hops;
        private int node;
        private int goal;
        private int size;
        private int deadline;
        private int priority;
        private boolean dropped;
        private int reason;

        Bundle(Network network) {
            this.network = network;
            hops = new Table(MOST_HOPS, HOP_PARTS);
        }

        void start(int node, int goal, int size, int deadline, int priority) {
            this.node = node;
            this.goal = goal;
            this.size = size;
            this.deadline = deadline;
            this.priority = priority;
            dropped = false;
            reason = NO_WAY;
            hops.cut(0);
        }

        void copyFrom(Bundle other) {
            start(other.node, other.goal, other.size, other.deadline, other.priority);
            dropped = other.dropped;
            reason = other.reason;
            hops.copyFrom(other.hops);
        }

        int standing(int now) {
            if (node == goal) {
                return THROUGH;
            }
            if (dropped) {
                return DROPPED;
            }
            if (now > deadline) {
                return LATE;
            }
            return lastNode() == goal ? BOOKED : WAITS;
        }

        /** The node to which the last hop leads, or where the bundle is, if it has none. */
        int lastNode() {
            if (hops.rows == 0) {
                return node;
            }
            return network.contactAt(hops.at(hops.rows - 1, CONTACT)).to;
        }

        /** The tick in which the bundle is at the last node; NONE if it has no hops. */
        int lastThere() {
            return hops.at(hops.rows - 1, THERE);
        }

        int property(int what, int now) {
            switch (what) {
                case 0: return standing(now);
                case 1: return node;
                case 2: return lastThere();
                case 3: return hops.rows;
                case 4: return priority;
                case 5: return size;
                case 6: return deadline;
                case 7: return goal;
                case 8: return standing(now) == WAITS ? reason : NONE;
                default: return BAD;
            }
        }

        void drop(int now) {
            dropped = true;
            giveUpHopsToCome(now);
        }

        void giveUpHopsToCome(int now) {
            hops.cut(hopsOnTheirWay(now));
        }

        private int hopsOnTheirWay(int now) {
            return hops.rows > 0 && hops.at(0, BEGIN) < now ? 1 : 0;
        }

        void arrive(int now) {
            for (int k = 0; k < MOST_HOPS; k++) {
                if (hops.rows > 0 && hops.at(0, THERE) <= now) {
                    node = network.contactAt(hops.at(0, CONTACT)).to;
                    hops.removeFirstRow();
                }
            }
        }

        /** Gives up what needs the contact now or later; tells whether a hop was lost. */
        boolean loses(int c, int now) {
            for (int k = 0; k < hops.rows; k++) {
                if (hops.at(k, CONTACT) == c && hops.at(k, END) > now) {
                    hops.cut(k == 0 ? 0 : hopsOnTheirWay(now));
                    return true;
                }
            }
            return false;
        }

        boolean takes(int c, int t) {
            for (int k = 0; k < hops.rows; k++) {
                if (hops.at(k, CONTACT) == c && hops.at(k, BEGIN) <= t && t < hops.at(k, END)) {
                    return true;
                }
            }
            return false;
        }

        /** Tells whether a hop to come of this bundle shares a tick with a hop of the other one. */
        boolean standsInTheWayOf(Bundle other, int now) {
            for (int k = hopsOnTheirWay(now); k < hops.rows; k++) {
                for (int m = 0; m < other.hops.rows; m++) {
                    if (hops.at(k, CONTACT) == other.hops.at(m, CONTACT)
                            && hops.at(k, BEGIN) < other.hops.at(m, END)
                            && other.hops.at(m, BEGIN) < hops.at(k, END)) {
                        return true;
                    }
                }
            }
            return false;
        }
    }

    /** What actions change: the bundles, now, and which contacts are missed. */
    private static final class Situation {
        // Stands in for a bundle that is not there.
        private final Bundle nobody;
        private final Bundle[] bundles;
        private int bundleCount;
        private int now;
        private int missed;

        Situation(Network network) {
            nobody = new Bundle(network);
            bundles = new Bundle[MOST_BUNDLES];
            for (int b = 0; b < bundles.length; b++) {
                bundles[b] = new Bundle(network);
            }
            bundleCount = 0;
            now = 0;
            missed = 0;
        }

        void reset() {
            bundleCount = 0;
            now = 0;
            missed = 0;
        }

        void copyFrom(Situation other) {
            bundleCount = other.bundleCount;
            now = other.now;
            missed = other.missed;
            for (int b = 0; b < bundleCount; b++) {
                bundleAt(b).copyFrom(other.bundleAt(b));
            }
        }

        boolean hasBundle(int b) {
            return b >= 0 && b < bundleCount;
        }

        Bundle bundleAt(int b) {
            if (b < 0 || b >= bundles.length) {
                return nobody;
            }
            Bundle found = bundles[b];
            return found == null ? nobody : found;
        }

        /** Returns the number of the bundle, which is still to be started. */
        int addBundle() {
            bundleCount++;
            return bundleCount - 1;
        }

        boolean isMissed(int c) {
            return (missed >> c & 1) == 1;
        }

        /** Tells whether a bundle is neither through nor dropped nor late. */
        boolean isOpen(int b) {
            int standing = bundleAt(b).standing(now);
            return standing == WAITS || standing == BOOKED;
        }

        int countStanding(int standing) {
            return Integer.bitCount(allStanding(standing));
        }

        /** The bundles that stand so, as bits. */
        int allStanding(int standing) {
            int set = 0;
            for (int b = 0; b < bundleCount; b++) {
                if (bundleAt(b).standing(now) == standing) {
                    set |= 1 << b;
                }
            }
            return set;
        }

        /** The tick in which a bundle is at its goal; NONE if it waits or is late. */
        int tickAtGoal(int b) {
            int standing = bundleAt(b).standing(now);
            if (standing == THROUGH) {
                return now;
            }
            return standing == BOOKED ? bundleAt(b).lastThere() : NONE;
        }

        int takerOf(int c, int t) {
            for (int b = 0; b < bundleCount; b++) {
                if (bundleAt(b).takes(c, t)) {
                    return b;
                }
            }
            return NONE;
        }

        void advance(int ticks) {
            now += ticks;
            for (int b = 0; b < bundleCount; b++) {
                bundleAt(b).arrive(now);
            }
        }

        /** Makes a contact missed; returns the bundles to be planned for it, as bits. */
        int lose(int c) {
            missed |= 1 << c;
            int set = 0;
            for (int b = 0; b < bundleCount; b++) {
                if (bundleAt(b).loses(c, now) && isOpen(b)) {
                    set |= 1 << b;
                }
            }
            return set;
        }

        /** Makes a contact not missed; returns the bundles to be planned for it, as bits. */
        int regain(int c) {
            missed &= ~(1 << c);
            return allStanding(WAITS);
        }
    }

    /** Finds the best way over the ticks that are free. */
    private static final class Router {
        private final Network network;
        // For each contact, how many free ticks follow one another from each tick on.
        private final Table freeRuns;
        private final Table trail;
        private final Table best;
        private int bestThere;
        private int goal;
        private int size;
        private int without;

        Router(Network network) {
            this.network = network;
            freeRuns = new Table(MOST_CONTACTS, LAST_TICK + 1);
            trail = new Table(MOST_HOPS, HOP_PARTS);
            best = new Table(MOST_HOPS, HOP_PARTS);
            bestThere = NEVER;
        }

        /**
         * Notes which ticks are free for a bundle of a priority. The bundle itself must have given
         * up its hops to come, for those of all bundles count as another's.
         */
        void lookAt(Situation situation, int priority) {
            openWindows(situation);
            for (int b = 0; b < situation.bundleCount; b++) {
                Bundle other = situation.bundleAt(b);
                for (int k = 0; k < other.hops.rows; k++) {
                    boolean onItsWay = other.hops.at(k, BEGIN) < situation.now;
                    if (onItsWay || other.priority >= priority) {
                        closeTicks(other.hops, k);
                    }
                }
            }
            countRuns();
        }

        private void openWindows(Situation situation) {
            freeRuns.cut(0);
            for (int c = 0; c < network.contactCount; c++) {
                Contact contact = network.contactAt(c);
                int first = Math.max(contact.start, situation.now);
                int end = situation.isMissed(c) ? 0 : contact.end;
                int row = freeRuns.addRow();
                for (int t = 0; t <= LAST_TICK; t++) {
                    freeRuns.put(row, t, t >= first && t < end ? 1 : 0);
                }
            }
        }

        private void closeTicks(Table hops, int k) {
            int c = hops.at(k, CONTACT);
            int end = hops.at(k, END);
            for (int t = hops.at(k, BEGIN); t < end; t++) {
                freeRuns.put(c, t, 0);
            }
        }

        private void countRuns() {
            for (int c = 0; c < freeRuns.rows; c++) {
                int run = 0;
                for (int t = LAST_TICK; t >= 0; t--) {
                    run = freeRuns.at(c, t) == 0 ? 0 : run + 1;
                    freeRuns.put(c, t, run);
                }
            }
        }

        /**
         * Seeks the best way from a node, which is not the goal, at a tick, without a contact;
         * returns the tick in which it is at the goal, or NONE, and leaves the way in best.
         */
        int seek(int node, int at, int goal, int size, int without) {
            this.goal = goal;
            this.size = size;
            this.without = without;
            best.cut(0);
            bestThere = NEVER;
            explore(this, node, at, 0, 1 << node);
            return best.rows == 0 ? NONE : bestThere;
        }

        /**
         * Tries all ways that begin with the first hops of the trail. The contacts are taken in
         * their order, so that of equally good ways the lexicographically first one is met first. A
         * way that comes back to a node it has seen, or goes on when it is later than the best, can
         * be left out: the shorter way is there no later.
         */
        private static void explore(Router router, int node, int at, int depth, int seen) {
            if (depth >= LONGEST_WAY) {
                return;
            }
            for (int c = 0; c < router.network.contactCount; c++) {
                Contact contact = router.network.contactAt(c);
                if (c == router.without || contact.from != node || (seen >> contact.to & 1) == 1) {
                    continue;
                }
                int ticks = contact.ticksFor(router.size);
                int begin = router.firstBegin(c, at, ticks);
                int there = begin + ticks + contact.light;
                if (begin == NONE || there > router.bestThere) {
                    continue;
                }
                router.setTrail(depth, c, begin, begin + ticks, there);
                if (contact.to != router.goal) {
                    explore(router, contact.to, there, depth + 1, seen | 1 << contact.to);
                } else if (there < router.bestThere || depth + 1 < router.best.rows) {
                    router.bestThere = there;
                    router.best.cut(0);
                    router.best.appendFrom(router.trail);
                }
            }
        }

        /** The first tick, not before at, with which so many free ticks begin; or NONE. */
        private int firstBegin(int c, int at, int ticks) {
            for (int t = at; t <= LAST_TICK; t++) {
                if (freeRuns.at(c, t) >= ticks) {
                    return t;
                }
            }
            return NONE;
        }

        private void setTrail(int depth, int c, int begin, int end, int there) {
            trail.cut(depth);
            int row = trail.addRow();
            trail.put(row, CONTACT, c);
            trail.put(row, BEGIN, begin);
            trail.put(row, END, end);
            trail.put(row, THERE, there);
        }
    }

    /** Plans bundles; sets of them are bits. */
    private static final class Planner {
        private final Router router;

        Planner(Router router) {
            this.router = router;
        }

        void planAll(Situation situation, int set) {
            int left = set;
            // A bundle pushes out lower priorities only, so each one is planned at most once.
            for (int round = 0; round < MOST_BUNDLES && left != 0; round++) {
                int b = firstOf(situation, left);
                left &= ~(1 << b);
                if (planOne(situation, b)) {
                    left |= pushOut(situation, b);
                }
            }
        }

        private int firstOf(Situation situation, int set) {
            int first = 0;
            int highest = -1;
            for (int b = 0; b < situation.bundleCount; b++) {
                int priority = situation.bundleAt(b).priority;
                if ((set >> b & 1) == 1 && priority > highest) {
                    highest = priority;
                    first = b;
                }
            }
            return first;
        }

        /** Tells whether the bundle got the hops of a way. */
        private boolean planOne(Situation situation, int b) {
            Bundle planned = situation.bundleAt(b);
            planned.giveUpHopsToCome(situation.now);
            int node = planned.lastNode();
            if (node == planned.goal) {
                return false;
            }
            int at = planned.hops.rows == 0 ? situation.now : planned.lastThere();
            router.lookAt(situation, planned.priority);
            int there = router.seek(node, at, planned.goal, planned.size, NO_CONTACT);
            if (there == NONE || there > planned.deadline) {
                planned.reason = there == NONE ? NO_WAY : TOO_LATE;
                return false;
            }
            planned.hops.appendFrom(router.best);
            return true;
        }

        /** Returns the bundles that give up their hops for the one that was planned. */
        private int pushOut(Situation situation, int b) {
            Bundle planned = situation.bundleAt(b);
            int set = 0;
            for (int o = 0; o < situation.bundleCount; o++) {
                Bundle other = situation.bundleAt(o);
                if (other.priority < planned.priority
                        && other.standsInTheWayOf(planned, situation.now)) {
                    other.giveUpHopsToCome(situation.now);
                    set |= 1 << o;
                }
            }
            return set;
        }
    }

    /** The latest situations before actions; the oldest one gives way when there are too many. */
    private static final class History {
        // Stands in for a slot that is not there.
        private final Situation spare;
        private final Situation[] slots;
        private int next;
        private int kept;

        History(Network network) {
            spare = new Situation(network);
            slots = new Situation[MOST_UNDOS];
            for (int slot = 0; slot < slots.length; slot++) {
                slots[slot] = new Situation(network);
            }
            next = 0;
            kept = 0;
        }

        void forgetAll() {
            kept = 0;
        }

        void remember(Situation situation) {
            slotAt(next).copyFrom(situation);
            next = (next + 1) % MOST_UNDOS;
            kept = Math.min(kept + 1, MOST_UNDOS);
        }

        void takeBack(Situation situation) {
            next = (next + MOST_UNDOS - 1) % MOST_UNDOS;
            situation.copyFrom(slotAt(next));
            kept--;
        }

        private Situation slotAt(int slot) {
            if (slot < 0 || slot >= slots.length) {
                return spare;
            }
            Situation found = slots[slot];
            return found == null ? spare : found;
        }
    }
}
