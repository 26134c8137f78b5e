import java.util.function.Supplier;
import java.util.function.ToIntFunction;

/**
 * "A call that answers BAD, BUSY, LOST or false changes nothing.": of two objects that were brought to
 * the same state one gets a call that is refused, and all that can be seen then or later must be alike.
 * And the document's limit: an object is good for 512 calls.
 */
public final class RefusalEdges extends Checks {
    private static final int[] OUTSIDE = {-1, MIN, MAX};

    public static void main(String[] args) {
        section("A call that answers BAD, BUSY, LOST or false changes nothing.");
        fullIsFull();
        digitsAndTitles();
        appearAndAsk();
        network();
        reads();
        refusedOften();
        section("An object is used for at most 512 calls after it has been made");
        manyQueries();
        manyRegistrations();
        end();
    }

    /**
     * All at its limit: six titles, six cancellations, four dialogues at the home, two at node 1, 24 in
     * flight; numbers 300 and 400 are allotted, and 90000, the digits of 3, are not reached.
     */
    private static RoamingRegisters full() {
        RoamingRegisters x = sixCancellations();
        for (int count = 1; count <= 5; count++) {
            x.title(9, count, count != 1);
        }
        x.digits(3, 90000);
        x.ask(0);
        x.ask(2);
        deliverAll(x);
        x.appear(1, 0);
        x.ask(1);
        x.tick();
        x.appear(1, 1);
        x.appear(2, 2);
        fillNetwork(x);
        return x;
    }

    /** Nothing is at its limit: one subscriber is at node 2, one is on its way, the others are nowhere. */
    private static RoamingRegisters half() {
        RoamingRegisters x = reachable(3);
        x.title(7, 1, false);
        x.digits(3, 70000);
        register(x, 1, 1);
        register(x, 2, 1);
        x.ask(1);
        x.deliver(0);
        x.appear(3, 0);
        x.tick();
        return x;
    }

    private static void fullIsFull() {
        RoamingRegisters x = full();
        due("titles", x.title(8, 1, true), false);
        due("cancellations", x.cancellation(5), 15);
        due("dialogues of the home", x.dialogues(0), 4);
        due("dialogues of node 1", x.dialogues(1), 2);
        due("dialogues of node 2", x.dialogues(2), 1);
        due("in flight", x.flying(), 24);
        due("300", x.call(300), 0);
        due("400", x.call(400), 2);
        due("a query is open", x.answer(13), OPEN);
    }

    private static void refused(String what, Supplier<RoamingRegisters> state, ToIntFunction<RoamingRegisters> call, int want) {
        RoamingRegisters x = state.get();
        due(what, call.applyAsInt(x), want);
        due(what + ", then seen", look(x, 16), look(state.get(), 16));
        RoamingRegisters y = state.get();
        call.applyAsInt(y);
        due(what + ", then used", use(y), use(state.get()));
        RoamingRegisters z = state.get();
        call.applyAsInt(z);
        due(what + ", then the time", pass(z), pass(state.get()));
    }

    private static int bit(boolean yes) {
        return yes ? 1 : 0;
    }

    /** What numbers, titles, digits and the next numbers of dialogues are is seen by their use alone. */
    private static String use(RoamingRegisters x) {
        StringBuilder text = new StringBuilder();
        for (int v = 1; v <= 4; v++) {
            text.append(x.call(100 * v)).append(' ').append(x.call(100 * v + 1)).append(' ');
        }
        for (int n = 0; n < 20; n++) {
            text.append(x.deliver(n % 3)).append(' ');
        }
        for (int s = 0; s < 4; s++) {
            text.append(x.appear(1 + s, s)).append(' ').append(x.appear(4 - s, s)).append(' ').append(x.ask(s)).append(' ');
        }
        for (int first = 4; first <= 9; first++) {
            text.append(x.title(first, 1, true)).append(' ');
        }
        return text.append(look(x, 5)).toString();
    }

    private static String pass(RoamingRegisters x) {
        StringBuilder text = new StringBuilder();
        loseAll(x);
        for (int n = 0; n < 12; n++) {
            text.append(x.tick()).append(':').append(x.flying()).append(' ');
            for (int node = 0; node <= 3; node++) {
                text.append(x.dialogues(node)).append('/').append(x.dialogue(node, 0)).append(' ');
            }
            text.append(x.answer(13)).append(' ').append(x.call(n < 8 ? 300 : 400)).append(' ');
        }
        return text.toString();
    }

    private static void digitsAndTitles() {
        refused("digits(4, 0)", RefusalEdges::full, x -> bit(x.digits(4, 0)), 0);
        refused("digits(0, 100000)", RefusalEdges::full, x -> bit(x.digits(0, 100000)), 0);
        refused("digits(0, -1)", RefusalEdges::full, x -> bit(x.digits(0, -1)), 0);
        refused("a seventh title", RefusalEdges::full, x -> bit(x.title(0, 1, false)), 0);
        refused("a seventh title", RefusalEdges::full, x -> bit(x.title(90000, 5, true)), 0);
        refused("title(0, 6)", RefusalEdges::half, x -> bit(x.title(0, 6, false)), 0);
        refused("title(0, -1)", RefusalEdges::half, x -> bit(x.title(0, -1, false)), 0);
        refused("title(1, 0)", RefusalEdges::half, x -> bit(x.title(1, 0, false)), 0);
        refused("title(-1, 0)", RefusalEdges::half, x -> bit(x.title(-1, 0, false)), 0);
        refused("title(10, 1)", RefusalEdges::half, x -> bit(x.title(10, 1, true)), 0);
    }

    private static void appearAndAsk() {
        refused("appear, two open", RefusalEdges::full, x -> x.appear(1, 2), BUSY);
        refused("appear, two open, not reached", RefusalEdges::full, x -> x.appear(1, 3), BUSY);
        refused("appear, one of its own open", RefusalEdges::full, x -> x.appear(2, 2), BUSY);
        refused("appear, not reached", RefusalEdges::full, x -> x.appear(2, 3), LOST);
        refused("appear, not reached", RefusalEdges::half, x -> x.appear(2, 3), LOST);
        refused("appear, one of its own open", RefusalEdges::half, x -> x.appear(3, 0), BUSY);
        refused("appear(0, 0)", RefusalEdges::half, x -> x.appear(0, 0), BAD);
        refused("appear(4, 0)", RefusalEdges::half, x -> x.appear(4, 0), BAD);
        refused("appear(1, 4)", RefusalEdges::half, x -> x.appear(1, 4), BAD);
        refused("ask(0), four open", RefusalEdges::full, x -> x.ask(0), BUSY);
        refused("ask(0), no location", RefusalEdges::half, x -> x.ask(0), LOST);
        refused("ask(4)", RefusalEdges::half, x -> x.ask(4), BAD);
        refused("ask(-1)", RefusalEdges::full, x -> x.ask(-1), BAD);
    }

    private static void network() {
        refused("copy(0), 24 in flight", RefusalEdges::full, x -> bit(x.copy(0)), 0);
        refused("deliver(24)", RefusalEdges::full, x -> x.deliver(24), BAD);
        refused("lose(24)", RefusalEdges::full, x -> bit(x.lose(24)), 0);
        refused("datagram(24, 0)", RefusalEdges::full, x -> x.datagram(24, 0), BAD);
        refused("datagram(0, 8)", RefusalEdges::full, x -> x.datagram(0, 8), BAD);
        refused("deliver behind the last", RefusalEdges::half, x -> x.deliver(3), BAD);
        refused("lose behind the last", RefusalEdges::half, x -> bit(x.lose(3)), 0);
        refused("copy behind the last", RefusalEdges::half, x -> bit(x.copy(3)), 0);
        for (int i : OUTSIDE) {
            refused("deliver(" + i + ")", RefusalEdges::half, x -> x.deliver(i), BAD);
            refused("lose(" + i + ")", RefusalEdges::half, x -> bit(x.lose(i)), 0);
            refused("copy(" + i + ")", RefusalEdges::half, x -> bit(x.copy(i)), 0);
            refused("datagram(" + i + ", 0)", RefusalEdges::half, x -> x.datagram(i, 0), BAD);
        }
    }

    private static void reads() {
        for (int n : OUTSIDE) {
            refused("answer(" + n + ")", RefusalEdges::full, x -> x.answer(n), BAD);
            refused("holds(" + n + ", 0)", RefusalEdges::full, x -> bit(x.holds(n, 0)), 0);
            refused("location(" + n + ")", RefusalEdges::full, x -> x.location(n), BAD);
            refused("registration(" + n + ", 0)", RefusalEdges::full, x -> x.registration(n, 0), BAD);
            refused("dialogues(" + n + ")", RefusalEdges::full, x -> x.dialogues(n), BAD);
            refused("dialogue(0, " + n + ")", RefusalEdges::full, x -> x.dialogue(0, n), BAD);
            refused("cancellation(" + n + ")", RefusalEdges::full, x -> x.cancellation(n), -1);
            refused("call(" + n + ")", RefusalEdges::full, x -> x.call(n), BAD);
        }
        refused("call(302)", RefusalEdges::full, x -> x.call(302), BAD);
        refused("call(299)", RefusalEdges::full, x -> x.call(299), BAD);
        refused("call(401) of three nodes", RefusalEdges::half, x -> x.call(401), BAD);
        refused("answer(1) of an UPDATE", RefusalEdges::full, x -> x.answer(1), BAD);
        refused("dialogue(1, 2)", RefusalEdges::full, x -> x.dialogue(1, 2), BAD);
        refused("dialogues(4) of three nodes", RefusalEdges::half, x -> x.dialogues(4), BAD);
    }

    /** What a refused call used up would run out after many of them. */
    private static void refusedOften() {
        ToIntFunction<RoamingRegisters> often = x -> {
            int sum = 0;
            for (int n = 0; n < 12; n++) {
                sum += x.appear(1, 2) + x.appear(2, 3) + x.ask(0) + x.ask(4) + x.deliver(24) + x.answer(1);
                sum += bit(x.title(0, 1, true)) + bit(x.digits(4, 1)) + bit(x.lose(24)) + bit(x.copy(0));
            }
            return sum;
        };
        RoamingRegisters x = full();
        due("all are refused", often.applyAsInt(x), 12 * (BUSY + LOST + BUSY + 3 * BAD));
        due("then used", pass(x), pass(full()));
    }

    /** One registration, then 168 queries with three calls each: an object's last call is as good as its first. */
    private static void manyQueries() {
        RoamingRegisters x = reachable(2);
        x.appear(1, 0);
        for (int n = 0; n < 4; n++) {
            x.deliver(0);
        }
        for (int n = 0; n < 168; n++) {
            due("ask", x.ask(0), 2 + n);
            x.deliver(0);
            due("END PROVIDE", x.deliver(0), 34);
        }
        due("call 511", x.answer(150), -2);
        due("call 512", x.answer(149), BAD);
    }

    /** 101 registrations with five calls each. */
    private static void manyRegistrations() {
        RoamingRegisters x = reachable(2);
        for (int n = 1; n <= 101; n++) {
            due("appear", x.appear(1, n % 4), n);
            x.deliver(0);
            x.deliver(0);
            x.deliver(0);
            due("END UPDATE", x.deliver(0), 31);
        }
        due("call 507", x.tick(), 1);
        due("call 508", x.appear(1, 0), 102);
        due("call 509", x.deliver(0), 11);
        due("call 510", x.datagram(0, 5), 102);
        due("call 511", x.dialogue(0, 0), 102);
        due("call 512", x.dialogue(1, 0), 102);
    }
}
