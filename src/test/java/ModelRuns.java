import java.util.ArrayList;
import java.util.HashMap;
import java.util.LinkedHashMap;
import java.util.List;
import java.util.Map;
import java.util.TreeMap;

/**
 * Runs of mixed calls, drawn from a fixed row of numbers: every answer and all that can be seen of
 * the object are compared with Model, a slow telling of the document that shares no code with it.
 */
public final class ModelRuns {
    private static final int RUNS = 600;
    private static final int CALLS = 512;

    private static long seed;
    private static int wrong = 0;

    public static void main(String[] args) {
        Map<String, Integer> seen = new TreeMap<>();
        for (int run = 0; run < RUNS && wrong < 20; run++) {
            seed = 7919L * run + 13;
            run(run, seen);
        }
        String[] needed = {"appear busy", "appear lost", "ask busy", "flight lost", "update doubled", "abort for four",
            "abort for six", "cancel ended by update", "no number", "not held", "timeout of update", "late answer",
            "cancel fails registration", "insert refused", "home insert refused", "forgotten", "title seventh"};
        for (String need : needed) {
            if (seen.getOrDefault(need, 0) < 5) {
                wrong++;
                System.out.println("the runs hardly meet: " + need + " " + seen.getOrDefault(need, 0));
            }
        }
        System.out.println(wrong == 0 ? "all answers are as due" : wrong + " answers are not as due");
        if (wrong != 0) {
            System.exit(1);
        }
    }

    private static int draw(int bound) {
        seed = seed * 6364136223846793005L + 1442695040888963407L;
        return (int) Long.remainderUnsigned(seed >>> 33, bound);
    }

    /** Mostly 0 .. bound - 1, now and then just outside. */
    private static int near(int bound) {
        return draw(25) == 0 ? (draw(2) == 0 ? -1 : bound) : draw(bound);
    }

    private static void run(int run, Map<String, Integer> seen) {
        int visited = 1 + draw(5);
        RoamingRegisters x = new RoamingRegisters(visited);
        Model m = new Model(visited, seen);
        // Some runs are calm and some stormy, so that both full lists and whole exchanges are met.
        int[] weights = {1 + draw(2), 1 + draw(2), 4 + draw(20), 1 + draw(12), 20 + draw(60), draw(6), draw(16), 1 + draw(8), 1 + draw(3)};
        x.title(0, 0, true);
        m.title(0, 0, true);
        for (int n = 1; n < CALLS && wrong < 20; n++) {
            String call = step(x, m, pick(weights));
            compare(run, n, call, x, m);
        }
    }

    private static int pick(int[] weights) {
        int sum = 0;
        for (int w : weights) {
            sum += w;
        }
        int left = draw(sum);
        for (int k = 0; k < weights.length; k++) {
            left -= weights[k];
            if (left < 0) {
                return k;
            }
        }
        return 0;
    }

    private static String step(RoamingRegisters x, Model m, int kind) {
        int a;
        int b;
        switch (kind) {
            case 0:
                a = near(4);
                b = draw(3) == 0 ? near(100000) : draw(200);
                return same("digits " + a + " " + b, bit(x.digits(a, b)), bit(m.digits(a, b)));
            case 1:
                a = draw(3) == 0 ? near(20) : 0;
                b = near(6);
                boolean yes = draw(4) != 0;
                return same("title " + a + " " + b + " " + yes, bit(x.title(a, b, yes)), bit(m.title(a, b, yes)));
            case 2:
                a = 1 + near(4);
                b = near(4);
                return same("appear " + a + " " + b, x.appear(a, b), m.appear(a, b));
            case 3:
                a = near(4);
                return same("ask " + a, x.ask(a), m.ask(a));
            case 4:
                a = draw(2) == 0 ? 0 : near(Math.max(1, x.flying()));
                return same("deliver " + a, x.deliver(a), m.deliver(a));
            case 5:
                a = near(Math.max(1, x.flying()));
                return same("lose " + a, bit(x.lose(a)), bit(m.lose(a)));
            case 6:
                a = near(Math.max(1, x.flying()));
                return same("copy " + a, bit(x.copy(a)), bit(m.copy(a)));
            case 7:
                return same("tick", x.tick(), m.tick());
            default:
                a = 100 * near(6) + near(2);
                return same("call " + a, x.call(a), m.call(a));
        }
    }

    private static int bit(boolean yes) {
        return yes ? 1 : 0;
    }

    private static String same(String call, int got, int want) {
        if (got != want) {
            wrong++;
            System.out.println(call + " answered " + got + ", due is " + want);
        }
        return call;
    }

    private static void compare(int run, int n, String call, RoamingRegisters x, Model m) {
        String got = look(x);
        String want = m.look();
        if (!got.equals(want)) {
            wrong++;
            System.out.println("run " + run + ", call " + n + ", after " + call + ":\n  is  " + got + "\n  due " + want);
        }
        for (int q = -1; q <= m.nodes.get(0).latest + 1; q++) {
            if (x.answer(q) != m.answer(q)) {
                wrong++;
                System.out.println("run " + run + ", call " + n + ": answer " + q + " is " + x.answer(q) + ", due " + m.answer(q));
            }
        }
    }

    private static String look(RoamingRegisters x) {
        StringBuilder text = new StringBuilder();
        for (int i = 0; i < x.flying(); i++) {
            for (int what = 0; what < 8; what++) {
                text.append(x.datagram(i, what)).append(what < 7 ? ',' : ';');
            }
        }
        text.append(" open");
        for (int node = 0; x.dialogues(node) != RoamingRegisters.BAD; node++) {
            for (int k = 0; k < x.dialogues(node); k++) {
                text.append(' ').append(x.dialogue(node, k));
            }
            text.append('/');
            for (int s = 0; node > 0 && s < 4; s++) {
                text.append(x.holds(node, s) ? 'h' : '-').append(x.registration(node, s));
            }
        }
        for (int s = 0; s < 4; s++) {
            text.append(" at ").append(x.location(s));
        }
        for (int k = 0; x.cancellation(k) >= 0; k++) {
            text.append(" c").append(x.cancellation(k));
        }
        return text.toString();
    }

    private record Gram(int sender, int receiver, String form, String operation, int s, int from, int to, int value) {
    }

    private static final class Talk {
        int number;
        String kind;
        int s;
        int other;
        int deadline;
        int answered;
    }

    private static final class Node {
        final TreeMap<Integer, Talk> open = new TreeMap<>();
        int latest;
        final boolean[] holds = new boolean[4];
        final int[] standing = new int[4];
        final Map<Integer, int[]> allotted = new HashMap<>();
    }

    private static final class Model {
        private static final List<String> FORMS = List.of("", "BEGIN", "CONTINUE", "END", "ABORT");
        private static final List<String> OPERATIONS = List.of("", "UPDATE", "INSERT", "CANCEL", "PROVIDE");

        final List<Node> nodes = new ArrayList<>();
        final Map<String, Integer> seen;
        private final String[] digits = {"00000", "00000", "00000", "00000"};
        private final Map<String, Boolean> titles = new HashMap<>();
        private final int[] location = new int[4];
        private final List<Integer> cancellations = new ArrayList<>();
        private final List<Gram> flight = new ArrayList<>();
        private final LinkedHashMap<Integer, Integer> queries = new LinkedHashMap<>();
        private int clock;

        Model(int visited, Map<String, Integer> seen) {
            this.seen = seen;
            int count = visited < 2 ? 2 : visited > 4 ? 4 : visited;
            for (int node = 0; node <= count; node++) {
                nodes.add(new Node());
            }
        }

        private void met(String what) {
            seen.merge(what, 1, Integer::sum);
        }

        private boolean noNode(int v) {
            return v < 1 || v >= nodes.size();
        }

        private boolean noSubscriber(int s) {
            return s < 0 || s > 3;
        }

        boolean digits(int s, int number) {
            if (noSubscriber(s) || number < 0 || number > 99999) {
                return false;
            }
            digits[s] = String.format("%05d", number);
            return true;
        }

        boolean title(int first, int count, boolean yes) {
            if (count < 0 || count > 5 || first < 0 || first >= Math.round(Math.pow(10, count))) {
                return false;
            }
            String key = count == 0 ? "" : String.format("%0" + count + "d", first);
            if (!titles.containsKey(key) && titles.size() == 6) {
                met("title seventh");
                return false;
            }
            titles.put(key, yes);
            return true;
        }

        private boolean reached(int s) {
            for (int count = 5; count >= 0; count--) {
                Boolean yes = titles.get(digits[s].substring(0, count));
                if (yes != null) {
                    return yes;
                }
            }
            return false;
        }

        private int openTalk(int node, String kind, int s, int other, int lasts, int answered) {
            Talk talk = new Talk();
            talk.number = ++nodes.get(node).latest;
            talk.kind = kind;
            talk.s = s;
            talk.other = other;
            talk.deadline = clock + lasts;
            talk.answered = answered;
            nodes.get(node).open.put(talk.number, talk);
            return talk.number;
        }

        private void send(Gram gram) {
            if (flight.size() < 24) {
                flight.add(gram);
            } else {
                met("flight lost");
            }
        }

        int appear(int v, int s) {
            if (noNode(v) || noSubscriber(s)) {
                return -9;
            }
            Node node = nodes.get(v);
            if (node.open.size() >= 2 || node.open.values().stream().anyMatch(t -> t.s == s)) {
                met("appear busy");
                return -8;
            }
            if (!reached(s)) {
                met("appear lost");
                return -7;
            }
            int number = openTalk(v, "REGISTRATION", s, 0, 10, 0);
            node.standing[s] = 1;
            send(new Gram(v, 0, "BEGIN", "UPDATE", s, number, 0, 0));
            return number;
        }

        int ask(int s) {
            if (noSubscriber(s)) {
                return -9;
            }
            if (location[s] == 0) {
                return -7;
            }
            if (nodes.get(0).open.size() >= 4) {
                met("ask busy");
                return -8;
            }
            int number = openTalk(0, "QUERY", s, location[s], 6, 0);
            queries.put(number, -6);
            send(new Gram(0, location[s], "BEGIN", "PROVIDE", s, number, 0, 0));
            return number;
        }

        int answer(int query) {
            if (!queries.containsKey(query)) {
                return -9;
            }
            if (queries.keySet().stream().filter(q -> q > query).count() >= 20) {
                met("forgotten");
                return -9;
            }
            return queries.get(query);
        }

        int deliver(int i) {
            if (i < 0 || i >= flight.size()) {
                return -9;
            }
            Gram g = flight.remove(i);
            arrive(g);
            return 10 * FORMS.indexOf(g.form) + OPERATIONS.indexOf(g.operation);
        }

        private void arrive(Gram g) {
            Node at = nodes.get(g.receiver);
            Talk mine = at.open.get(g.to);
            switch (g.form + " " + g.operation) {
                case "BEGIN UPDATE" -> update(g);
                case "CONTINUE INSERT" -> insert(g, at, mine);
                case "END UPDATE" -> finish(at, mine, 2);
                case "BEGIN CANCEL" -> cancel(g, at);
                case "END CANCEL" -> {
                    if (mine != null) {
                        at.open.remove(mine.number);
                        cancellations.remove((Integer) (4 * mine.other + mine.s));
                    }
                }
                case "BEGIN PROVIDE" -> provide(g, at);
                case "END PROVIDE" -> {
                    if (mine == null) {
                        met("late answer");
                    } else {
                        at.open.remove(mine.number);
                        queries.put(mine.number, g.value);
                    }
                }
                default -> finish(at, mine, 3);
            }
        }

        private void finish(Node at, Talk mine, int how) {
            if (mine != null) {
                at.open.remove(mine.number);
                if (mine.kind.equals("REGISTRATION")) {
                    at.standing[mine.s] = how;
                }
            }
        }

        private void update(Gram g) {
            Node home = nodes.get(0);
            int v = g.sender;
            int s = g.s;
            for (Talk t : home.open.values()) {
                if (t.kind.equals("UPDATE") && t.other == v && t.answered == g.from) {
                    met("update doubled");
                    return;
                }
            }
            boolean elsewhere = location[s] != 0 && location[s] != v;
            Integer old = 4 * location[s] + s;
            boolean six = elsewhere && !cancellations.contains(old) && cancellations.size() == 6;
            if (home.open.size() == 4 || six) {
                met(six ? "abort for six" : "abort for four");
                send(new Gram(0, v, "ABORT", "", 0, 0, g.from, 0));
                return;
            }
            if (elsewhere && !cancellations.contains(old)) {
                cancellations.add(old);
            }
            cancellations.remove((Integer) (4 * v + s));
            if (home.open.values().removeIf(t -> t.kind.equals("CANCEL") && t.other == v && t.s == s)) {
                met("cancel ended by update");
            }
            location[s] = v;
            int number = openTalk(0, "UPDATE", s, v, 6, g.from);
            send(new Gram(0, v, "CONTINUE", "INSERT", s, number, g.from, 0));
        }

        private void insert(Gram g, Node at, Talk mine) {
            if (mine == null) {
                met(g.receiver == 0 ? "home insert refused" : "insert refused");
                send(new Gram(g.receiver, g.sender, "ABORT", "", 0, 0, g.from, 0));
            } else if (g.receiver == 0) {
                at.open.remove(mine.number);
                send(new Gram(0, g.sender, "END", "UPDATE", g.s, mine.number, g.from, 0));
            } else {
                at.holds[g.s] = true;
                mine.deadline = clock + 10;
                send(new Gram(g.receiver, g.sender, "CONTINUE", "INSERT", g.s, mine.number, g.from, 0));
            }
        }

        private void cancel(Gram g, Node at) {
            at.holds[g.s] = false;
            if (at.open.values().removeIf(t -> t.s == g.s)) {
                met("cancel fails registration");
                at.standing[g.s] = 3;
            }
            send(new Gram(g.receiver, 0, "END", "CANCEL", g.s, 0, g.from, 0));
        }

        private void provide(Gram g, Node at) {
            int value = -2;
            int low = 100 * g.receiver;
            if (!at.holds[g.s]) {
                met("not held");
                value = -1;
            } else if (!at.allotted.containsKey(low)) {
                value = low;
            } else if (!at.allotted.containsKey(low + 1)) {
                value = low + 1;
            } else {
                met("no number");
            }
            if (value >= 0) {
                at.allotted.put(value, new int[] {g.s, clock + 8});
            }
            send(new Gram(g.receiver, 0, "END", "PROVIDE", g.s, 0, g.from, value));
        }

        boolean lose(int i) {
            if (i < 0 || i >= flight.size()) {
                return false;
            }
            flight.remove(i);
            return true;
        }

        boolean copy(int i) {
            if (i < 0 || i >= flight.size() || flight.size() == 24) {
                return false;
            }
            flight.add(flight.get(i));
            return true;
        }

        int tick() {
            clock++;
            for (Node node : nodes) {
                for (Talk t : new ArrayList<>(node.open.values())) {
                    if (t.deadline == clock) {
                        node.open.remove(t.number);
                        expire(node, t);
                    }
                }
            }
            for (Node node : nodes) {
                node.allotted.values().removeIf(a -> a[1] == clock);
            }
            Node home = nodes.get(0);
            for (int c : cancellations) {
                boolean none = home.open.values().stream().noneMatch(t -> t.kind.equals("CANCEL") && 4 * t.other + t.s == c);
                if (none && home.open.size() < 4) {
                    int number = openTalk(0, "CANCEL", c % 4, c / 4, 4, 0);
                    send(new Gram(0, c / 4, "BEGIN", "CANCEL", c % 4, number, 0, 0));
                }
            }
            return clock;
        }

        private void expire(Node node, Talk t) {
            switch (t.kind) {
                case "REGISTRATION" -> node.standing[t.s] = 3;
                case "UPDATE" -> {
                    met("timeout of update");
                    send(new Gram(0, t.other, "ABORT", "", 0, t.number, t.answered, 0));
                }
                case "QUERY" -> queries.put(t.number, -3);
                default -> {
                }
            }
        }

        int call(int number) {
            int v = Math.floorDiv(number, 100);
            if (noNode(v) || Math.floorMod(number, 100) > 1) {
                return -9;
            }
            int[] allotted = nodes.get(v).allotted.remove(number);
            return allotted == null ? -1 : allotted[0];
        }

        String look() {
            StringBuilder text = new StringBuilder();
            for (Gram g : flight) {
                text.append(g.sender).append(',').append(g.receiver).append(',').append(FORMS.indexOf(g.form)).append(',');
                text.append(OPERATIONS.indexOf(g.operation)).append(',').append(g.s).append(',').append(g.from).append(',');
                text.append(g.to).append(',').append(g.value).append(';');
            }
            text.append(" open");
            for (Node node : nodes) {
                for (int number : node.open.keySet()) {
                    text.append(' ').append(number);
                }
                text.append('/');
                for (int s = 0; node != nodes.get(0) && s < 4; s++) {
                    text.append(node.holds[s] ? 'h' : '-').append(node.standing[s]);
                }
            }
            for (int s = 0; s < 4; s++) {
                text.append(" at ").append(location[s]);
            }
            for (int c : cancellations) {
                text.append(" c").append(c);
            }
            return text.toString();
        }
    }
}
