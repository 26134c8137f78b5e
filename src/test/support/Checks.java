import java.util.Arrays;

/** What the tests share: answers compared with those that are due, and objects brought to a state. */
abstract class Checks {
    static final int BAD = -9;
    static final int BUSY = -8;
    static final int LOST = -7;
    static final int OPEN = -6;
    static final int MIN = Integer.MIN_VALUE;
    static final int MAX = Integer.MAX_VALUE;

    private static int wrong = 0;
    private static String section = "";

    /** Names what is tested from here on: a promise, or a sentence of the document in its own words. */
    static void section(String name) {
        section = name;
    }

    static void end() {
        System.out.println(wrong == 0 ? "all answers are as due" : wrong + " answers are not as due");
        if (wrong != 0) {
            System.exit(1);
        }
    }

    private static void tell(String what, String got, String want) {
        wrong++;
        System.out.println(section + ": " + what + " answered " + got + ", due is " + want);
    }

    static void due(String what, int got, int want) {
        if (got != want) {
            tell(what, "" + got, "" + want);
        }
    }

    static void due(String what, boolean got, boolean want) {
        if (got != want) {
            tell(what, "" + got, "" + want);
        }
    }

    static void due(String what, String got, String want) {
        if (!got.equals(want)) {
            tell(what, got, want);
        }
    }

    /** All eight parts of datagram i: sender, receiver, form, operation, subscriber, from, to, value. */
    static void dueDatagram(RoamingRegisters x, int i, int... want) {
        int[] got = new int[8];
        for (int what = 0; what < 8; what++) {
            got[what] = x.datagram(i, what);
        }
        if (!Arrays.equals(got, want)) {
            tell("datagram " + i, Arrays.toString(got), Arrays.toString(want));
        }
    }

    static void dueDialogues(RoamingRegisters x, int node, int... want) {
        due("dialogues(" + node + ")", x.dialogues(node), want.length);
        for (int k = 0; k < want.length; k++) {
            due("dialogue(" + node + ", " + k + ")", x.dialogue(node, k), want[k]);
        }
        due("dialogue(" + node + ", behind the last)", x.dialogue(node, want.length), BAD);
    }

    static void dueCancellations(RoamingRegisters x, int... want) {
        for (int k = 0; k < want.length; k++) {
            due("cancellation(" + k + ")", x.cancellation(k), want[k]);
        }
        due("cancellation(" + want.length + ")", x.cancellation(want.length), -1);
    }

    /** All that can be seen without a change, the answers to the queries 0 .. lastQuery among it. */
    static String look(RoamingRegisters x, int lastQuery) {
        StringBuilder text = new StringBuilder();
        for (int i = 0; i < x.flying(); i++) {
            for (int what = 0; what < 8; what++) {
                text.append(x.datagram(i, what)).append(what < 7 ? ',' : ';');
            }
        }
        for (int node = 0; x.dialogues(node) != BAD; node++) {
            text.append(" open at ").append(node).append(':');
            for (int k = 0; x.dialogue(node, k) != BAD; k++) {
                text.append(x.dialogue(node, k)).append(',');
            }
            for (int s = 0; node > 0 && s < 4; s++) {
                text.append(x.holds(node, s) ? " held" : " not").append(x.registration(node, s));
            }
        }
        text.append(" at");
        for (int s = 0; s < 4; s++) {
            text.append(' ').append(x.location(s));
        }
        text.append(" cancel");
        for (int k = 0; x.cancellation(k) != -1; k++) {
            text.append(' ').append(x.cancellation(k));
        }
        text.append(" answers");
        for (int query = 0; query <= lastQuery; query++) {
            text.append(' ').append(x.answer(query));
        }
        return text.toString();
    }

    static RoamingRegisters reachable(int visited) {
        RoamingRegisters x = new RoamingRegisters(visited);
        x.title(0, 0, true);
        return x;
    }

    static RoamingRegisters registered(int visited, int v, int s) {
        RoamingRegisters x = reachable(visited);
        register(x, v, s);
        return x;
    }

    /** Six cancellations: 0 and 1 went from 1 to 2 to 3, and 2 and 3 went from 3 to 4. */
    static RoamingRegisters sixCancellations() {
        return moved(10);
    }

    /** The first so many of the ten registrations that lead to six cancellations: nine lead to five. */
    static RoamingRegisters moved(int moves) {
        int[][] ways = {{1, 0}, {1, 1}, {2, 0}, {2, 1}, {3, 0}, {3, 1}, {3, 2}, {3, 3}, {4, 2}, {4, 3}};
        RoamingRegisters x = reachable(4);
        for (int n = 0; n < moves; n++) {
            register(x, ways[n][0], ways[n][1]);
        }
        return x;
    }

    static void register(RoamingRegisters x, int v, int s) {
        x.appear(v, s);
        deliverAll(x);
    }

    static void deliverAll(RoamingRegisters x) {
        for (int n = 0; n < 60 && x.deliver(0) != BAD; n++) {
            continue;
        }
    }

    static void loseAll(RoamingRegisters x) {
        for (int n = 0; n < 24 && x.lose(0); n++) {
            continue;
        }
    }

    static void fillNetwork(RoamingRegisters x) {
        fillNetwork(x, 24);
    }

    /** Copies of datagram 0 until so many are in flight. */
    static void fillNetwork(RoamingRegisters x, int count) {
        for (int n = x.flying(); n < count; n++) {
            x.copy(0);
        }
    }

    static void ticks(RoamingRegisters x, int count) {
        for (int n = 0; n < count; n++) {
            x.tick();
        }
    }
}
