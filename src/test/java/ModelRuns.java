import java.util.ArrayList;
import java.util.HashMap;
import java.util.LinkedHashMap;
import java.util.List;
import java.util.Map;
import java.util.TreeMap;

/**
 * Runs of mixed calls, drawn from a fixed row of numbers: every answer and, at a run's end, all that can
 * be seen of the object are compared with Model, a slow telling of the document that shares no code with
 * it. No run makes more than the 512 calls that the document promises an object for.
 */
public final class ModelRuns {
    private static final int RUNS = 12000;
    private static final int CALLS = 512;

    private static long seed;
    private static int wrong = 0;
    private static int run;
    private static int calls;

    public static void main(String[] args) {
        Map<String, Integer> seen = new TreeMap<>();
        for (run = 0; run < RUNS && wrong < 20; run++) {
            seed = 7919L * run + 13;
            run(seen);
        }
        String[] needed = {"appear busy", "appear lost", "ask busy", "flight lost", "update doubled", "abort for four",
            "abort for six", "cancel ended by update", "no number", "not held", "timeout of update", "late answer",
            "cancel fails registration", "insert refused", "home insert refused", "forgotten", "title seventh"};
        for (String need : needed) {
            if (seen.getOrDefault(need, 0) < 5) {
                wrong++;
                System.out.println("the runs hardly meet: " + need + " " + seen.getOrDefault(need, 0));
            }
        }
        System.out.println(wrong == 0 ? "all answers are as due" : wrong + " answers are not as due");
        if (wrong != 0) {
            System.exit(1);
        }
    }

    private static int draw(int bound) {
        seed = seed * 6364136223846793005L + 1442695040888963407L;
        return (int) Long.remainderUnsigned(seed >>> 33, bound);
    }

    /** Mostly 0 .. bound - 1, now and then just outside. */
    private static int near(int bound) {
        return draw(25) == 0 ? (draw(2) == 0 ? -1 : bound) : draw(bound);
    }

    private static void run(Map<String, Integer> seen) {
        int visited = 1 + draw(5);
        RoamingRegisters x = new RoamingRegisters(visited);
        Model m = new Model(visited, seen);
        calls = 0;
        // Some runs are calm and some stormy, so that both full lists and whole exchanges are met.
        int[] weights = {1 + draw(2), 1 + draw(2), 4 + draw(20), 1 + draw(12), 20 + draw(60), draw(6), draw(16), 1 + draw(8), 1 + draw(3)};
        int reads = draw(3) == 0 ? 1 : 0;
        // A run that is short ends in a state that long runs pass through unseen.
        int most = draw(2) == 0 ? CALLS : 100 + draw(CALLS - 100);
        same("title", bit(x.title(0, 0, true)), bit(m.title(0, 0, true)));
        while (calls + m.costOfALook() < most && wrong < 20) {
            if (draw(10) < reads) {
                read(x, m, draw(10));
            } else {
                step(x, m, pick(weights));
            }
        }
        look(x, m);
        if (calls > CALLS) {
            wrong++;
            System.out.println("run " + run + " makes " + calls + " calls");
        }
    }

    private static int pick(int[] weights) {
        int sum = 0;
        for (int w : weights) {
            sum += w;
        }
        int left = draw(sum);
        for (int k = 0; k < weights.length; k++) {
            left -= weights[k];
            if (left < 0) {
                return k;
            }
        }
        return 0;
    }

    private static void step(RoamingRegisters x, Model m, int kind) {
        int a;
        int b;
        switch (kind) {
            case 0:
                a = near(4);
                b = draw(3) == 0 ? near(100000) : draw(200);
                same("digits " + a + " " + b, bit(x.digits(a, b)), bit(m.digits(a, b)));
                break;
            case 1:
                a = draw(3) == 0 ? near(20) : 0;
                b = near(6);
                boolean yes = draw(4) != 0;
                same("title " + a + " " + b + " " + yes, bit(x.title(a, b, yes)), bit(m.title(a, b, yes)));
                break;
            case 2:
                a = 1 + near(4);
                b = near(4);
                same("appear " + a + " " + b, x.appear(a, b), m.appear(a, b));
                break;
            case 3:
                a = near(4);
                same("ask " + a, x.ask(a), m.ask(a));
                break;
            case 4:
                a = draw(2) == 0 ? 0 : near(Math.max(1, m.flight.size()));
                same("deliver " + a, x.deliver(a), m.deliver(a));
                break;
            case 5:
                a = near(Math.max(1, m.flight.size()));
                same("lose " + a, bit(x.lose(a)), bit(m.lose(a)));
                break;
            case 6:
                a = near(Math.max(1, m.flight.size()));
                same("copy " + a, bit(x.copy(a)), bit(m.copy(a)));
                break;
            case 7:
                same("tick", x.tick(), m.tick());
                break;
            default:
                a = 100 * near(6) + near(2);
                same("call " + a, x.call(a), m.call(a));
                break;
        }
    }

    private static void read(RoamingRegisters x, Model m, int kind) {
        int a = near(5);
        int b = near(4);
        switch (kind) {
            case 0:
                a = near(m.nodes.get(0).latest + 1);
                same("answer " + a, x.answer(a), m.answer(a));
                break;
            case 1:
                same("flying", x.flying(), m.flight.size());
                break;
            case 2:
                same("holds " + a + " " + b, bit(x.holds(a, b)), bit(m.holds(a, b)));
                break;
            case 3:
                same("location " + b, x.location(b), m.location(b));
                break;
            case 4:
                same("registration " + a + " " + b, x.registration(a, b), m.registration(a, b));
                break;
            case 5:
                same("dialogues " + a, x.dialogues(a), m.dialogues(a));
                break;
            case 6:
                same("dialogue " + a + " " + b, x.dialogue(a, b), m.dialogue(a, b));
                break;
            case 7:
                a = near(6);
                same("cancellation " + a, x.cancellation(a), m.cancellation(a));
                break;
            default:
                a = near(Math.max(1, m.flight.size()));
                b = near(8);
                same("datagram " + a + " " + b, x.datagram(a, b), m.datagram(a, b));
                break;
        }
    }

    /** All that can be seen, the roaming numbers last because seeing them frees them. */
    private static void look(RoamingRegisters x, Model m) {
        same("flying", x.flying(), m.flight.size());
        for (int i = 0; i < m.flight.size(); i++) {
            for (int what = 0; what < 8; what++) {
                same("datagram " + i + " " + what, x.datagram(i, what), m.datagram(i, what));
            }
        }
        for (int node = 0; node < m.nodes.size(); node++) {
            for (int k = 0; k <= m.dialogues(node); k++) {
                same("dialogue " + node + " " + k, x.dialogue(node, k), m.dialogue(node, k));
            }
            for (int s = 0; node > 0 && s < 4; s++) {
                same("holds " + node + " " + s, bit(x.holds(node, s)), bit(m.holds(node, s)));
                same("registration " + node + " " + s, x.registration(node, s), m.registration(node, s));
            }
        }
        for (int s = 0; s < 4; s++) {
            same("location " + s, x.location(s), m.location(s));
        }
        for (int k = 0; k <= m.cancellations.size(); k++) {
            same("cancellation " + k, x.cancellation(k), m.cancellation(k));
        }
        int latest = m.nodes.get(0).latest;
        for (int query = Math.max(0, latest - 24); query <= latest + 1; query++) {
            same("answer " + query, x.answer(query), m.answer(query));
        }
        for (int v = 1; v < m.nodes.size(); v++) {
            same("call " + 100 * v, x.call(100 * v), m.call(100 * v));
            same("call " + (100 * v + 1), x.call(100 * v + 1), m.call(100 * v + 1));
        }
    }

    private static int bit(boolean yes) {
        return yes ? 1 : 0;
    }

    private static void same(String call, int got, int want) {
        calls++;
        if (got != want) {
            wrong++;
            System.out.println("run " + run + ", call " + calls + ": " + call + " answered " + got + ", due is " + want);
        }
    }

    private record Gram(int sender, int receiver, String form, String operation, int s, int from, int to, int value) {
    }

    private static final class Talk {
        int number;
        String kind;
        int s;
        int other;
        int deadline;
        int answered;
    }

    private static final class Node {
        final TreeMap<Integer, Talk> open = new TreeMap<>();
        int latest;
        final boolean[] holds = new boolean[4];
        final int[] standing = new int[4];
        final Map<Integer, int[]> allotted = new HashMap<>();
    }

    private static final class Model {
        private static final List<String> FORMS = List.of("", "BEGIN", "CONTINUE", "END", "ABORT");
        private static final List<String> OPERATIONS = List.of("", "UPDATE", "INSERT", "CANCEL", "PROVIDE");

        final List<Node> nodes = new ArrayList<>();
        final Map<String, Integer> seen;
        private final String[] digits = {"00000", "00000", "00000", "00000"};
        private final Map<String, Boolean> titles = new HashMap<>();
        private final int[] location = new int[4];
        private final List<Integer> cancellations = new ArrayList<>();
        private final List<Gram> flight = new ArrayList<>();
        private final LinkedHashMap<Integer, Integer> queries = new LinkedHashMap<>();
        private int clock;

        Model(int visited, Map<String, Integer> seen) {
            this.seen = seen;
            int count = visited < 2 ? 2 : visited > 4 ? 4 : visited;
            for (int node = 0; node <= count; node++) {
                nodes.add(new Node());
            }
        }

        private void met(String what) {
            seen.merge(what, 1, Integer::sum);
        }

        private boolean noNode(int v) {
            return v < 1 || v >= nodes.size();
        }

        private boolean noSubscriber(int s) {
            return s < 0 || s > 3;
        }

        boolean digits(int s, int number) {
            if (noSubscriber(s) || number < 0 || number > 99999) {
                return false;
            }
            digits[s] = String.format("%05d", number);
            return true;
        }

        boolean title(int first, int count, boolean yes) {
            if (count < 0 || count > 5 || first < 0 || first >= Math.round(Math.pow(10, count))) {
                return false;
            }
            String key = count == 0 ? "" : String.format("%0" + count + "d", first);
            if (!titles.containsKey(key) && titles.size() == 6) {
                met("title seventh");
                return false;
            }
            titles.put(key, yes);
            return true;
        }

        private boolean reached(int s) {
            for (int count = 5; count >= 0; count--) {
                Boolean yes = titles.get(digits[s].substring(0, count));
                if (yes != null) {
                    return yes;
                }
            }
            return false;
        }

        private int openTalk(int node, String kind, int s, int other, int lasts, int answered) {
            Talk talk = new Talk();
            talk.number = ++nodes.get(node).latest;
            talk.kind = kind;
            talk.s = s;
            talk.other = other;
            talk.deadline = clock + lasts;
            talk.answered = answered;
            nodes.get(node).open.put(talk.number, talk);
            return talk.number;
        }

        private void send(Gram gram) {
            if (flight.size() < 24) {
                flight.add(gram);
            } else {
                met("flight lost");
            }
        }

        int appear(int v, int s) {
            if (noNode(v) || noSubscriber(s)) {
                return -9;
            }
            Node node = nodes.get(v);
            if (node.open.size() >= 2 || node.open.values().stream().anyMatch(t -> t.s == s)) {
                met("appear busy");
                return -8;
            }
            if (!reached(s)) {
                met("appear lost");
                return -7;
            }
            int number = openTalk(v, "REGISTRATION", s, 0, 10, 0);
            node.standing[s] = 1;
            send(new Gram(v, 0, "BEGIN", "UPDATE", s, number, 0, 0));
            return number;
        }

        int ask(int s) {
            if (noSubscriber(s)) {
                return -9;
            }
            if (location[s] == 0) {
                return -7;
            }
            if (nodes.get(0).open.size() >= 4) {
                met("ask busy");
                return -8;
            }
            int number = openTalk(0, "QUERY", s, location[s], 6, 0);
            queries.put(number, -6);
            send(new Gram(0, location[s], "BEGIN", "PROVIDE", s, number, 0, 0));
            return number;
        }

        int answer(int query) {
            if (!queries.containsKey(query)) {
                return -9;
            }
            if (queries.keySet().stream().filter(q -> q > query).count() >= 20) {
                met("forgotten");
                return -9;
            }
            return queries.get(query);
        }

        int deliver(int i) {
            if (i < 0 || i >= flight.size()) {
                return -9;
            }
            Gram g = flight.remove(i);
            arrive(g);
            return 10 * FORMS.indexOf(g.form) + OPERATIONS.indexOf(g.operation);
        }

        private void arrive(Gram g) {
            Node at = nodes.get(g.receiver);
            Talk mine = at.open.get(g.to);
            switch (g.form + " " + g.operation) {
                case "BEGIN UPDATE" -> update(g);
                case "CONTINUE INSERT" -> insert(g, at, mine);
                case "END UPDATE" -> finish(at, mine, 2);
                case "BEGIN CANCEL" -> cancel(g, at);
                case "END CANCEL" -> {
                    if (mine != null) {
                        at.open.remove(mine.number);
                        cancellations.remove((Integer) (4 * mine.other + mine.s));
                    }
                }
                case "BEGIN PROVIDE" -> provide(g, at);
                case "END PROVIDE" -> {
                    if (mine == null) {
                        met("late answer");
                    } else {
                        at.open.remove(mine.number);
                        queries.put(mine.number, g.value);
                    }
                }
                default -> finish(at, mine, 3);
            }
        }

        private void finish(Node at, Talk mine, int how) {
            if (mine != null) {
                at.open.remove(mine.number);
                if (mine.kind.equals("REGISTRATION")) {
                    at.standing[mine.s] = how;
                }
            }
        }

        private void update(Gram g) {
            Node home = nodes.get(0);
            int v = g.sender;
            int s = g.s;
            for (Talk t : home.open.values()) {
                if (t.kind.equals("UPDATE") && t.other == v && t.answered == g.from) {
                    met("update doubled");
                    return;
                }
            }
            boolean elsewhere = location[s] != 0 && location[s] != v;
            Integer old = 4 * location[s] + s;
            boolean six = elsewhere && !cancellations.contains(old) && cancellations.size() == 6;
            if (home.open.size() == 4 || six) {
                met(six ? "abort for six" : "abort for four");
                send(new Gram(0, v, "ABORT", "", 0, 0, g.from, 0));
                return;
            }
            if (elsewhere && !cancellations.contains(old)) {
                cancellations.add(old);
            }
            cancellations.remove((Integer) (4 * v + s));
            if (home.open.values().removeIf(t -> t.kind.equals("CANCEL") && t.other == v && t.s == s)) {
                met("cancel ended by update");
            }
            location[s] = v;
            int number = openTalk(0, "UPDATE", s, v, 6, g.from);
            send(new Gram(0, v, "CONTINUE", "INSERT", s, number, g.from, 0));
        }

        private void insert(Gram g, Node at, Talk mine) {
            if (mine == null) {
                met(g.receiver == 0 ? "home insert refused" : "insert refused");
                send(new Gram(g.receiver, g.sender, "ABORT", "", 0, 0, g.from, 0));
            } else if (g.receiver == 0) {
                at.open.remove(mine.number);
                send(new Gram(0, g.sender, "END", "UPDATE", g.s, mine.number, g.from, 0));
            } else {
                at.holds[g.s] = true;
                mine.deadline = clock + 10;
                send(new Gram(g.receiver, g.sender, "CONTINUE", "INSERT", g.s, mine.number, g.from, 0));
            }
        }

        private void cancel(Gram g, Node at) {
            at.holds[g.s] = false;
            if (at.open.values().removeIf(t -> t.s == g.s)) {
                met("cancel fails registration");
                at.standing[g.s] = 3;
            }
            send(new Gram(g.receiver, 0, "END", "CANCEL", g.s, 0, g.from, 0));
        }

        private void provide(Gram g, Node at) {
            int value = -2;
            int low = 100 * g.receiver;
            if (!at.holds[g.s]) {
                met("not held");
                value = -1;
            } else if (!at.allotted.containsKey(low)) {
                value = low;
            } else if (!at.allotted.containsKey(low + 1)) {
                value = low + 1;
            } else {
                met("no number");
            }
            if (value >= 0) {
                at.allotted.put(value, new int[] {g.s, clock + 8});
            }
            send(new Gram(g.receiver, 0, "END", "PROVIDE", g.s, 0, g.from, value));
        }

        boolean lose(int i) {
            if (i < 0 || i >= flight.size()) {
                return false;
            }
            flight.remove(i);
            return true;
        }

        boolean copy(int i) {
            if (i < 0 || i >= flight.size() || flight.size() == 24) {
                return false;
            }
            flight.add(flight.get(i));
            return true;
        }

        int tick() {
            clock++;
            for (Node node : nodes) {
                for (Talk t : new ArrayList<>(node.open.values())) {
                    if (t.deadline == clock) {
                        node.open.remove(t.number);
                        expire(node, t);
                    }
                }
            }
            for (Node node : nodes) {
                node.allotted.values().removeIf(a -> a[1] == clock);
            }
            Node home = nodes.get(0);
            for (int c : cancellations) {
                boolean none = home.open.values().stream().noneMatch(t -> t.kind.equals("CANCEL") && 4 * t.other + t.s == c);
                if (none && home.open.size() < 4) {
                    int number = openTalk(0, "CANCEL", c % 4, c / 4, 4, 0);
                    send(new Gram(0, c / 4, "BEGIN", "CANCEL", c % 4, number, 0, 0));
                }
            }
            return clock;
        }

        private void expire(Node node, Talk t) {
            switch (t.kind) {
                case "REGISTRATION" -> node.standing[t.s] = 3;
                case "UPDATE" -> {
                    met("timeout of update");
                    send(new Gram(0, t.other, "ABORT", "", 0, t.number, t.answered, 0));
                }
                case "QUERY" -> queries.put(t.number, -3);
                default -> {
                }
            }
        }

        int call(int number) {
            int v = Math.floorDiv(number, 100);
            if (noNode(v) || Math.floorMod(number, 100) > 1) {
                return -9;
            }
            int[] allotted = nodes.get(v).allotted.remove(number);
            return allotted == null ? -1 : allotted[0];
        }

        int datagram(int i, int what) {
            if (i < 0 || i >= flight.size() || what < 0 || what > 7) {
                return -9;
            }
            Gram g = flight.get(i);
            int[] parts = {g.sender, g.receiver, FORMS.indexOf(g.form), OPERATIONS.indexOf(g.operation), g.s, g.from, g.to, g.value};
            return parts[what];
        }

        boolean holds(int v, int s) {
            return !noNode(v) && !noSubscriber(s) && nodes.get(v).holds[s];
        }

        int location(int s) {
            return noSubscriber(s) ? -9 : location[s];
        }

        int registration(int v, int s) {
            return noNode(v) || noSubscriber(s) ? -9 : nodes.get(v).standing[s];
        }

        int dialogues(int node) {
            return node < 0 || node >= nodes.size() ? -9 : nodes.get(node).open.size();
        }

        int dialogue(int node, int k) {
            if (k < 0 || k >= dialogues(node)) {
                return -9;
            }
            return new ArrayList<>(nodes.get(node).open.keySet()).get(k);
        }

        int cancellation(int k) {
            return k < 0 || k >= cancellations.size() ? -1 : cancellations.get(k);
        }

        /** At least as many calls as look needs after one call more, which may be a tick that sends eight. */
        int costOfALook() {
            return 8 * Math.min(24, flight.size() + 8) + 100;
        }
    }
}
