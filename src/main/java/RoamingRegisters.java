/**
 * A home register and visited registers that talk in dialogues over a network which may lose,
 * double and turn round what is sent. All rows are made in the constructor and used again, so no
 * call makes an object.
 */
public final class RoamingRegisters {
    public static final int BAD = -9;
    public static final int BUSY = -8;
    public static final int LOST = -7;
    public static final int OPEN = -6;

    private static final int HOME = 0;
    private static final int SUBSCRIBERS = 4;
    private static final int NONE = -1;

    // A datagram's form and operation as one number, 10 * form + operation, just as deliver tells them.
    private static final int BEGIN_UPDATE = 11;
    private static final int BEGIN_CANCEL = 13;
    private static final int BEGIN_PROVIDE = 14;
    private static final int CONTINUE_INSERT = 22;
    private static final int END_UPDATE = 31;
    private static final int END_CANCEL = 33;
    private static final int END_PROVIDE = 34;
    private static final int ABORT = 40;

    private static final int REGISTRATION = 1;
    private static final int UPDATE = 2;
    private static final int CANCEL = 3;
    private static final int QUERY = 4;

    private static final int PENDING = 1;
    private static final int DONE = 2;
    private static final int FAILED = 3;

    private static final int NOT_HELD = -1;
    private static final int NO_NUMBER_FREE = -2;
    private static final int NOT_ANSWERED = -3;

    private static final int[] POWERS_OF_TEN = {1, 10, 100, 1000, 10000, 100000};
    private static final int DIGITS = 5;

    private final int visited;
    private int clock;
    private final int[] digitsOf = new int[SUBSCRIBERS];
    private final int[] locationOf = new int[SUBSCRIBERS];
    private final boolean[] held;
    private final int[] standing;
    private final Titles titles = new Titles();
    private final Places cancellations = new Places();
    private final Queries queries = new Queries();
    private final Network network = new Network();
    private final Datagram arrived = new Datagram();
    private final RoamingNumbers numbers;
    private final Dialogues home;
    private final Dialogues[] openAt;

    public RoamingRegisters(int visited) {
        this.visited = Math.max(2, Math.min(4, visited));
        held = new boolean[SUBSCRIBERS * (this.visited + 1)];
        standing = new int[SUBSCRIBERS * (this.visited + 1)];
        numbers = new RoamingNumbers(this.visited);
        home = new Dialogues(4);
        openAt = new Dialogues[this.visited + 1];
        openAt[HOME] = home;
        for (int v = 1; v <= this.visited; v++) {
            openAt[v] = new Dialogues(2);
        }
    }

    public boolean digits(int s, int digits) {
        if (!isSubscriber(s) || digits < 0 || digits >= POWERS_OF_TEN[DIGITS]) {
            return false;
        }
        digitsOf[s] = digits;
        return true;
    }

    public boolean title(int first, int count, boolean yes) {
        if (count < 0 || count > DIGITS || first < 0 || first >= POWERS_OF_TEN[count]) {
            return false;
        }
        return titles.put(first, count, yes);
    }

    public int appear(int v, int s) {
        if (!isVisited(v) || !isSubscriber(s)) {
            return BAD;
        }
        Dialogues open = openAt[v];
        if (open.isFull() || open.find(REGISTRATION, HOME, s) != NONE) {
            return BUSY;
        }
        if (!titles.reach(digitsOf[s])) {
            return LOST;
        }
        int number = open.begin(REGISTRATION, HOME, s, clock + 10, 0);
        standing[place(v, s)] = PENDING;
        network.send(v, HOME, BEGIN_UPDATE, s, number, 0, 0);
        return number;
    }

    public int ask(int s) {
        if (!isSubscriber(s)) {
            return BAD;
        }
        int v = locationOf[s];
        if (v == HOME) {
            return LOST;
        }
        if (home.isFull()) {
            return BUSY;
        }
        int number = home.begin(QUERY, v, s, clock + 6, 0);
        queries.add(number);
        network.send(HOME, v, BEGIN_PROVIDE, s, number, 0, 0);
        return number;
    }

    public int answer(int query) {
        return queries.answerTo(query);
    }

    public int deliver(int i) {
        if (!network.has(i)) {
            return BAD;
        }
        // The row of what is taken out may carry what is sent next: so the handlers read a copy.
        arrived.become(network.rows[i]);
        network.remove(i);
        receive(arrived);
        return arrived.code;
    }

    public boolean lose(int i) {
        if (!network.has(i)) {
            return false;
        }
        network.remove(i);
        return true;
    }

    public boolean copy(int i) {
        if (!network.has(i) || network.isFull()) {
            return false;
        }
        network.repeat(i);
        return true;
    }

    public int flying() {
        return network.size;
    }

    public int datagram(int i, int what) {
        return network.has(i) ? network.rows[i].part(what) : BAD;
    }

    public int tick() {
        clock++;
        for (int node = HOME; node <= visited; node++) {
            endThoseDue(node);
        }
        numbers.freeAllottedUntil(clock);
        for (int k = 0; k < cancellations.size; k++) {
            sendCancel(cancellations.at(k));
        }
        return clock;
    }

    public boolean holds(int v, int s) {
        return isVisited(v) && isSubscriber(s) && held[place(v, s)];
    }

    public int location(int s) {
        return isSubscriber(s) ? locationOf[s] : BAD;
    }

    public int registration(int v, int s) {
        return isVisited(v) && isSubscriber(s) ? standing[place(v, s)] : BAD;
    }

    public int dialogues(int node) {
        return isNode(node) ? openAt[node].size : BAD;
    }

    public int dialogue(int node, int k) {
        if (!isNode(node) || k < 0 || k >= openAt[node].size) {
            return BAD;
        }
        return openAt[node].rows[k].number;
    }

    public int cancellation(int k) {
        return cancellations.at(k);
    }

    public int call(int number) {
        int v = number / 100;
        int which = number % 100;
        if (!isVisited(v) || which < 0 || which >= RoamingNumbers.PER_NODE) {
            return BAD;
        }
        return numbers.use(v, which);
    }

    private boolean isNode(int node) {
        return node >= HOME && node <= visited;
    }

    private boolean isVisited(int node) {
        return node > HOME && node <= visited;
    }

    private static boolean isSubscriber(int s) {
        return s >= 0 && s < SUBSCRIBERS;
    }

    private static int place(int v, int s) {
        return SUBSCRIBERS * v + s;
    }

    private void receive(Datagram d) {
        switch (d.code) {
            case BEGIN_UPDATE:
                receiveBeginUpdate(d);
                break;
            case BEGIN_CANCEL:
                receiveBeginCancel(d);
                break;
            case BEGIN_PROVIDE:
                receiveBeginProvide(d);
                break;
            case CONTINUE_INSERT:
                receiveInsert(d);
                break;
            default:
                receiveLast(d);
                break;
        }
    }

    private void receiveBeginUpdate(Datagram d) {
        int v = d.sender;
        int s = d.subscriber;
        if (home.findUpdate(v, d.senderDialogue) != NONE) {
            return;
        }
        if (home.isFull() || !mayMove(s, v)) {
            sendAbort(d);
            return;
        }
        move(s, v);
        int number = home.begin(UPDATE, v, s, clock + 6, d.senderDialogue);
        network.send(HOME, v, CONTINUE_INSERT, s, number, d.senderDialogue, 0);
    }

    private boolean isElsewhere(int s, int v) {
        return locationOf[s] != HOME && locationOf[s] != v;
    }

    private boolean mayMove(int s, int v) {
        return !isElsewhere(s, v) || cancellations.has(place(locationOf[s], s)) || !cancellations.isFull();
    }

    private void move(int s, int v) {
        if (isElsewhere(s, v)) {
            cancellations.add(place(locationOf[s], s));
        }
        cancellations.drop(place(v, s));
        home.end(home.find(CANCEL, v, s));
        locationOf[s] = v;
    }

    private void receiveInsert(Datagram d) {
        int k = openAt[d.receiver].indexOf(d.receiverDialogue);
        if (k == NONE) {
            sendAbort(d);
        } else if (d.receiver == HOME) {
            home.end(k);
            network.send(HOME, d.sender, END_UPDATE, d.subscriber, d.receiverDialogue, d.senderDialogue, 0);
        } else {
            held[place(d.receiver, d.subscriber)] = true;
            openAt[d.receiver].rows[k].deadline = clock + 10;
            network.send(d.receiver, HOME, CONTINUE_INSERT, d.subscriber, d.receiverDialogue, d.senderDialogue, 0);
        }
    }

    private void receiveBeginCancel(Datagram d) {
        int v = d.receiver;
        held[place(v, d.subscriber)] = false;
        int k = openAt[v].find(REGISTRATION, HOME, d.subscriber);
        if (k != NONE) {
            endRegistration(v, k, FAILED);
        }
        network.send(v, HOME, END_CANCEL, d.subscriber, 0, d.senderDialogue, 0);
    }

    private void receiveBeginProvide(Datagram d) {
        int v = d.receiver;
        int value = NOT_HELD;
        if (held[place(v, d.subscriber)]) {
            value = numbers.allot(v, d.subscriber, clock + 8);
        }
        network.send(v, HOME, END_PROVIDE, d.subscriber, 0, d.senderDialogue, value);
    }

    /** END or ABORT: nothing is sent back, and the receiver's dialogue ends if it is open. */
    private void receiveLast(Datagram d) {
        int k = openAt[d.receiver].indexOf(d.receiverDialogue);
        if (k == NONE) {
            return;
        }
        if (d.receiver != HOME) {
            endRegistration(d.receiver, k, d.code == END_UPDATE ? DONE : FAILED);
            return;
        }
        if (d.code == END_CANCEL) {
            cancellations.drop(place(home.rows[k].other, home.rows[k].subscriber));
        } else if (d.code == END_PROVIDE) {
            queries.settle(d.receiverDialogue, d.value);
        }
        home.end(k);
    }

    private void endRegistration(int v, int k, int how) {
        standing[place(v, openAt[v].rows[k].subscriber)] = how;
        openAt[v].end(k);
    }

    private void sendAbort(Datagram d) {
        network.send(d.receiver, d.sender, ABORT, 0, 0, d.senderDialogue, 0);
    }

    private void endThoseDue(int node) {
        Dialogues open = openAt[node];
        int k = 0;
        for (int left = open.size; left > 0; left--) {
            if (open.rows[k].deadline == clock) {
                giveUp(node, k);
            } else {
                k++;
            }
        }
    }

    private void giveUp(int node, int k) {
        if (node != HOME) {
            endRegistration(node, k, FAILED);
            return;
        }
        Dialogue late = home.rows[k];
        if (late.kind == UPDATE) {
            network.send(HOME, late.other, ABORT, 0, late.number, late.answers, 0);
        } else if (late.kind == QUERY) {
            queries.settle(late.number, NOT_ANSWERED);
        }
        home.end(k);
    }

    private void sendCancel(int place) {
        int v = place / SUBSCRIBERS;
        int s = place % SUBSCRIBERS;
        if (home.isFull() || home.find(CANCEL, v, s) != NONE) {
            return;
        }
        int number = home.begin(CANCEL, v, s, clock + 4, 0);
        network.send(HOME, v, BEGIN_CANCEL, s, number, 0, 0);
    }

    private static final class Titles {
        private static final int MOST = 6;

        private final int[] firsts = new int[MOST];
        private final int[] counts = new int[MOST];
        private final boolean[] yeses = new boolean[MOST];
        private int size;

        boolean put(int first, int count, boolean yes) {
            int k = indexOf(first, count);
            if (k == MOST) {
                return false;
            }
            if (k == size) {
                size++;
            }
            firsts[k] = first;
            counts[k] = count;
            yeses[k] = yes;
            return true;
        }

        /** Where the title is or, if there is none of these digits, would be put. */
        private int indexOf(int first, int count) {
            for (int k = 0; k < size; k++) {
                if (firsts[k] == first && counts[k] == count) {
                    return k;
                }
            }
            return size;
        }

        boolean reach(int digits) {
            int longest = NONE;
            boolean yes = false;
            for (int k = 0; k < size; k++) {
                if (counts[k] > longest && digits / POWERS_OF_TEN[DIGITS - counts[k]] == firsts[k]) {
                    longest = counts[k];
                    yes = yeses[k];
                }
            }
            return yes;
        }
    }

    /** The cancellations: each a visited node and a subscriber as one number. */
    private static final class Places {
        private static final int MOST = 6;

        private final int[] rows = new int[MOST];
        private int size;

        boolean isFull() {
            return size == MOST;
        }

        boolean has(int place) {
            return indexOf(place) != NONE;
        }

        int at(int k) {
            return k >= 0 && k < size ? rows[k] : NONE;
        }

        void add(int place) {
            if (!has(place) && !isFull()) {
                rows[size] = place;
                size++;
            }
        }

        void drop(int place) {
            int k = indexOf(place);
            if (k == NONE) {
                return;
            }
            size--;
            for (int j = k; j < size; j++) {
                rows[j] = rows[j + 1];
            }
        }

        private int indexOf(int place) {
            for (int k = 0; k < size; k++) {
                if (rows[k] == place) {
                    return k;
                }
            }
            return NONE;
        }
    }

    /** The answers to the latest queries; an older query's row is given to a newer one. */
    private static final class Queries {
        private static final int KEPT = 20;

        private final int[] queryNumbers = new int[KEPT];
        private final int[] answers = new int[KEPT];
        private int next;

        void add(int number) {
            queryNumbers[next] = number;
            answers[next] = OPEN;
            next = next + 1 == KEPT ? 0 : next + 1;
        }

        void settle(int number, int value) {
            int k = indexOf(number);
            if (k != NONE) {
                answers[k] = value;
            }
        }

        int answerTo(int number) {
            int k = indexOf(number);
            return k == NONE ? BAD : answers[k];
        }

        private int indexOf(int number) {
            // A row that was never used bears 0, which is no dialogue's number.
            if (number <= 0) {
                return NONE;
            }
            for (int k = 0; k < KEPT; k++) {
                if (queryNumbers[k] == number) {
                    return k;
                }
            }
            return NONE;
        }
    }

    private static final class RoamingNumbers {
        private static final int PER_NODE = 2;

        private final int[] owners;
        private final int[] untils;

        RoamingNumbers(int visited) {
            owners = new int[PER_NODE * (visited + 1)];
            untils = new int[PER_NODE * (visited + 1)];
            for (int k = 0; k < owners.length; k++) {
                owners[k] = NONE;
            }
        }

        int allot(int v, int s, int until) {
            for (int which = 0; which < PER_NODE; which++) {
                int k = PER_NODE * v + which;
                if (owners[k] == NONE) {
                    owners[k] = s;
                    untils[k] = until;
                    return 100 * v + which;
                }
            }
            return NO_NUMBER_FREE;
        }

        int use(int v, int which) {
            int k = PER_NODE * v + which;
            int owner = owners[k];
            owners[k] = NONE;
            return owner;
        }

        void freeAllottedUntil(int now) {
            for (int k = 0; k < owners.length; k++) {
                if (untils[k] == now) {
                    owners[k] = NONE;
                }
            }
        }
    }

    private static final class Dialogue {
        private int number;
        private int kind;
        private int other;
        private int subscriber;
        private int deadline;
        private int answers;
    }

    /** The open dialogues of one node, by ascending numbers; the rows behind them are spare. */
    private static final class Dialogues {
        private final Dialogue[] rows;
        private int size;
        private int latest;

        Dialogues(int most) {
            rows = new Dialogue[most];
            for (int k = 0; k < most; k++) {
                rows[k] = new Dialogue();
            }
        }

        boolean isFull() {
            return size == rows.length;
        }

        int begin(int kind, int other, int subscriber, int deadline, int answers) {
            Dialogue row = rows[size];
            size++;
            latest++;
            row.number = latest;
            row.kind = kind;
            row.other = other;
            row.subscriber = subscriber;
            row.deadline = deadline;
            row.answers = answers;
            return latest;
        }

        int indexOf(int number) {
            for (int k = 0; k < size; k++) {
                if (rows[k].number == number) {
                    return k;
                }
            }
            return NONE;
        }

        int find(int kind, int other, int subscriber) {
            for (int k = 0; k < size; k++) {
                Dialogue row = rows[k];
                if (row.kind == kind && row.other == other && row.subscriber == subscriber) {
                    return k;
                }
            }
            return NONE;
        }

        int findUpdate(int other, int answers) {
            for (int k = 0; k < size; k++) {
                Dialogue row = rows[k];
                if (row.kind == UPDATE && row.other == other && row.answers == answers) {
                    return k;
                }
            }
            return NONE;
        }

        void end(int k) {
            if (k < 0 || k >= size) {
                return;
            }
            Dialogue spare = rows[k];
            size--;
            for (int j = k; j < size; j++) {
                rows[j] = rows[j + 1];
            }
            rows[size] = spare;
        }
    }

    private static final class Datagram {
        private int sender;
        private int receiver;
        private int code;
        private int subscriber;
        private int senderDialogue;
        private int receiverDialogue;
        private int value;

        void become(Datagram d) {
            sender = d.sender;
            receiver = d.receiver;
            code = d.code;
            subscriber = d.subscriber;
            senderDialogue = d.senderDialogue;
            receiverDialogue = d.receiverDialogue;
            value = d.value;
        }

        int part(int what) {
            switch (what) {
                case 0:
                    return sender;
                case 1:
                    return receiver;
                case 2:
                    return code / 10;
                case 3:
                    return code % 10;
                case 4:
                    return subscriber;
                case 5:
                    return senderDialogue;
                case 6:
                    return receiverDialogue;
                case 7:
                    return value;
                default:
                    return BAD;
            }
        }
    }

    /** The datagrams in flight, the earliest first; the rows behind them are spare. */
    private static final class Network {
        private static final int MOST = 24;

        private final Datagram[] rows = new Datagram[MOST];
        private int size;

        Network() {
            for (int k = 0; k < MOST; k++) {
                rows[k] = new Datagram();
            }
        }

        boolean has(int i) {
            return i >= 0 && i < size;
        }

        boolean isFull() {
            return size == MOST;
        }

        void send(int sender, int receiver, int code, int subscriber, int from, int to, int value) {
            if (isFull()) {
                return;
            }
            Datagram row = rows[size];
            size++;
            row.sender = sender;
            row.receiver = receiver;
            row.code = code;
            row.subscriber = subscriber;
            row.senderDialogue = from;
            row.receiverDialogue = to;
            row.value = value;
        }

        void repeat(int i) {
            rows[size].become(rows[i]);
            size++;
        }

        void remove(int i) {
            Datagram spare = rows[i];
            size--;
            for (int k = i; k < size; k++) {
                rows[k] = rows[k + 1];
            }
            rows[size] = spare;
        }
    }
}
