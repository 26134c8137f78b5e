/** The promises of the document one by one: ordinary inputs, edges, wrong inputs. */
public final class PromiseTests extends Checks {
    public static void main(String[] args) {
        newObject();
        digits();
        title();
        appear();
        ask();
        answer();
        deliver();
        deliverBeginUpdate();
        deliverMoves();
        deliverFullCancellations();
        deliverInserts();
        deliverCancels();
        deliverProvides();
        deliverEndUpdateAndAbort();
        lose();
        copy();
        flying();
        datagram();
        tickDeadlines();
        tickCancels();
        tickNumbers();
        holds();
        location();
        registration();
        dialogues();
        dialogue();
        cancellation();
        call();
        end();
    }

    private static void newObject() {
        section("promise 1");
        int[][] rows = {{MIN, 2}, {-1, 2}, {0, 2}, {1, 2}, {2, 2}, {3, 3}, {4, 4}, {5, 4}, {MAX, 4}};
        for (int[] row : rows) {
            RoamingRegisters x = new RoamingRegisters(row[0]);
            due("dialogues(last)", x.dialogues(row[1]), 0);
            due("dialogues(last + 1)", x.dialogues(row[1] + 1), BAD);
            due("call(of last)", x.call(100 * row[1] + 1), -1);
            due("call(of last + 1)", x.call(100 * row[1] + 100), BAD);
            for (int v = 1; v <= row[1]; v++) {
                for (int s = 0; s < 4; s++) {
                    due("holds", x.holds(v, s), false);
                    due("registration", x.registration(v, s), 0);
                    due("location", x.location(s), 0);
                }
            }
            due("flying", x.flying(), 0);
            due("appear without a title", x.appear(1, 0), LOST);
            dueCancellations(x);
            dueDialogues(x, 0);
            due("tick", x.tick(), 1);
        }
        RoamingRegisters one = registered(2, 1, 0);
        due("another object", new RoamingRegisters(2).location(0), 0);
        due("this object", one.location(0), 1);
    }

    private static void digits() {
        section("promise 2");
        RoamingRegisters x = new RoamingRegisters(2);
        x.title(99999, 5, true);
        due("digits(3, 99999)", x.digits(3, 99999), true);
        due("digits(3, 100000)", x.digits(3, 100000), false);
        due("digits(3, -1)", x.digits(3, -1), false);
        due("digits(3, MIN)", x.digits(3, MIN), false);
        due("digits(3, MAX)", x.digits(3, MAX), false);
        due("digits(4, 5)", x.digits(4, 5), false);
        due("digits(-1, 5)", x.digits(-1, 5), false);
        due("digits(MIN, 5)", x.digits(MIN, 5), false);
        due("appear(1, 2), digits 00000", x.appear(1, 2), LOST);
        due("appear(1, 3), digits 99999", x.appear(1, 3), 1);
        due("digits(3, 0)", x.digits(3, 0), true);
        due("appear(2, 3), digits 00000", x.appear(2, 3), LOST);
        x.title(0, 5, true);
        due("appear(2, 3), title 00000", x.appear(2, 3), 1);
        due("appear(2, 0), digits 00000 at first", x.appear(2, 0), 2);
    }

    private static void title() {
        section("promise 3");
        RoamingRegisters x = new RoamingRegisters(2);
        int[] powers = {1, 10, 100, 1000, 10000, 100000};
        for (int count = 0; count <= 5; count++) {
            due("title(10^count, count)", x.title(powers[count], count, true), false);
            due("title(-1, count)", x.title(-1, count, true), false);
        }
        due("title(0, -1)", x.title(0, -1, true), false);
        due("title(0, 6)", x.title(0, 6, true), false);
        due("title(0, MIN)", x.title(0, MIN, true), false);
        due("title(0, MAX)", x.title(0, MAX, true), false);
        due("title(MIN, 0)", x.title(MIN, 0, true), false);
        due("appear after refusals", x.appear(1, 0), LOST);
        for (int count = 0; count <= 5; count++) {
            due("title(10^count - 1, count)", x.title(powers[count] - 1, count, count == 0), true);
        }
        due("a seventh", x.title(0, 1, true), false);
        due("a seventh of other length", x.title(9, 2, true), false);
        due("one that is there", x.title(99999, 5, true), true);
        x.digits(1, 99999);
        x.digits(2, 99998);
        due("five nines", x.appear(1, 1), 1);
        due("four nines NO", x.appear(1, 2), LOST);
        due("none but the empty", x.appear(1, 0), 2);
        titleLongestWins();
    }

    private static void titleLongestWins() {
        int[][] orders = {{0, 1, 2}, {2, 1, 0}, {1, 0, 2}, {1, 2, 0}};
        int[] firsts = {0, 0, 7};
        int[] counts = {0, 2, 3};
        for (int[] order : orders) {
            RoamingRegisters x = new RoamingRegisters(4);
            for (int k : order) {
                due("title", x.title(firsts[k], counts[k], k != 1), true);
            }
            x.digits(0, 799);
            x.digits(1, 899);
            x.digits(2, 7000);
            x.digits(3, 70000);
            due("00799 begins with 007", x.appear(1, 0), 1);
            due("00899 begins with 00", x.appear(1, 1), LOST);
            due("07000 begins with no digits", x.appear(1, 2), 2);
            due("70000 begins with no digits", x.appear(2, 3), 1);
            x.title(7, 3, false);
            x.title(0, 2, true);
            due("00799 is NO now", x.appear(3, 0), LOST);
            due("00899 is YES now", x.appear(3, 1), 1);
        }
    }

    private static void appear() {
        section("promise 4");
        RoamingRegisters x = reachable(3);
        int[][] bad = {{0, 0}, {-1, 0}, {4, 0}, {MIN, 0}, {MAX, 0}, {1, -1}, {1, 4}, {1, MIN}, {1, MAX}, {0, 9}};
        for (int[] row : bad) {
            due("appear of none", x.appear(row[0], row[1]), BAD);
        }
        due("flying", x.flying(), 0);
        due("appear(3, 2)", x.appear(3, 2), 1);
        dueDatagram(x, 0, 3, 0, 1, 1, 2, 1, 0, 0);
        due("registration(3, 2)", x.registration(3, 2), 1);
        due("appear(3, 2) again", x.appear(3, 2), BUSY);
        due("appear(3, 3)", x.appear(3, 3), 2);
        due("appear(3, 1), two open", x.appear(3, 1), BUSY);
        due("appear(3, 4) before BUSY", x.appear(3, 4), BAD);
        due("appear(1, 2) elsewhere", x.appear(1, 2), 1);
        x.title(0, 0, false);
        due("BUSY before LOST, two open", x.appear(3, 1), BUSY);
        due("BUSY before LOST, the same open", x.appear(1, 2), BUSY);
        due("LOST", x.appear(1, 3), LOST);
        due("LOST opens nothing", x.registration(1, 3), 0);
        due("flying", x.flying(), 3);
        dueDialogues(x, 3, 1, 2);
        dueDialogues(x, 1, 1);
        appearDeadline();
        appearWhenFull();
    }

    private static void appearDeadline() {
        RoamingRegisters x = reachable(2);
        ticks(x, 3);
        x.appear(1, 0);
        ticks(x, 9);
        due("open at 12", x.registration(1, 0), 1);
        x.tick();
        due("failed at 13", x.registration(1, 0), 3);
        dueDialogues(x, 1);
        due("no number is used again", x.appear(1, 0), 2);
        due("open again", x.registration(1, 0), 1);
    }

    private static void appearWhenFull() {
        RoamingRegisters x = reachable(2);
        x.appear(1, 0);
        fillNetwork(x);
        due("flying", x.flying(), 24);
        due("appear with 24 in flight", x.appear(2, 3), 1);
        due("it is open", x.registration(2, 3), 1);
        due("flying", x.flying(), 24);
        due("the last is still the old", x.datagram(23, 0), 1);
    }

    private static void ask() {
        section("promise 5");
        RoamingRegisters x = registered(2, 2, 3);
        int[] bad = {-1, 4, MIN, MAX};
        for (int s : bad) {
            due("ask of none", x.ask(s), BAD);
        }
        due("ask(0), no location", x.ask(0), LOST);
        due("ask(3)", x.ask(3), 2);
        dueDatagram(x, 0, 0, 2, 1, 4, 3, 2, 0, 0);
        due("answer", x.answer(2), OPEN);
        x.ask(3);
        x.ask(3);
        due("the fourth", x.ask(3), 5);
        due("a fifth", x.ask(3), BUSY);
        due("LOST before BUSY", x.ask(0), LOST);
        due("BAD before BUSY", x.ask(4), BAD);
        due("flying", x.flying(), 4);
        dueDialogues(x, 0, 2, 3, 4, 5);
        ticks(x, 5);
        due("open at 5", x.answer(2), OPEN);
        x.tick();
        due("-3 at 6", x.answer(2), -3);
        dueDialogues(x, 0);
        fillNetwork(x);
        due("ask with 24 in flight", x.ask(3), 6);
        due("flying", x.flying(), 24);
        dueDialogues(x, 0, 6);
    }

    private static void answer() {
        section("promise 6");
        RoamingRegisters x = registered(2, 1, 0);
        int[] bad = {0, -1, MIN, MAX, 1, 2};
        for (int query : bad) {
            due("answer of no query", x.answer(query), BAD);
        }
        due("ask", x.ask(0), 2);
        deliverAll(x);
        due("a roaming number", x.answer(2), 100);
        due("it stays", x.answer(2), 100);
        x.ask(0);
        x.ask(0);
        deliverAll(x);
        due("the other number", x.answer(3), 101);
        due("none free", x.answer(4), -2);
        x.ask(0);
        ticks(x, 6);
        due("not answered", x.answer(5), -3);
        deliverAll(x);
        due("too late", x.answer(5), -3);
        answerNotHeld();
        answerForgotten();
        answerForgottenWhileOpen();
    }

    private static void answerNotHeld() {
        RoamingRegisters x = reachable(2);
        x.appear(1, 0);
        x.deliver(0);
        due("ask", x.ask(0), 2);
        x.deliver(1);
        dueDatagram(x, 1, 1, 0, 3, 4, 0, 0, 2, -1);
        x.deliver(1);
        due("not held", x.answer(2), -1);
        due("no number is allotted", x.call(100), -1);
    }

    private static void answerForgotten() {
        RoamingRegisters x = registered(2, 1, 0);
        x.ask(0);
        deliverAll(x);
        for (int n = 0; n < 19; n++) {
            due("ask", x.ask(0), 3 + n);
            deliverAll(x);
        }
        due("19 after it", x.answer(2), 100);
        due("ask", x.ask(0), 22);
        due("20 after it", x.answer(2), BAD);
        due("the next", x.answer(3), 101);
        due("the newest", x.answer(22), OPEN);
        due("none yet", x.answer(23), BAD);
    }

    private static void answerForgottenWhileOpen() {
        RoamingRegisters x = registered(2, 1, 0);
        x.ask(0);
        for (int n = 0; n < 20; n++) {
            x.ask(0);
            x.deliver(1);
            x.deliver(1);
        }
        due("open, but 20 after it", x.answer(2), BAD);
        dueDialogues(x, 0, 2);
        due("the latest", x.answer(22), -2);
        deliverAll(x);
        dueDialogues(x, 0);
        due("the latest still", x.answer(22), -2);
        due("the earliest that is kept", x.answer(3), 100);
    }

    private static void deliver() {
        section("promise 7");
        RoamingRegisters x = reachable(2);
        int[] bad = {0, -1, 24, MIN, MAX};
        for (int i : bad) {
            due("deliver of none", x.deliver(i), BAD);
        }
        x.appear(1, 0);
        x.appear(1, 1);
        x.appear(2, 2);
        due("deliver(3)", x.deliver(3), BAD);
        due("deliver(-1)", x.deliver(-1), BAD);
        due("the middle one", x.deliver(1), 11);
        due("location(1)", x.location(1), 1);
        due("location(0)", x.location(0), 0);
        dueDatagram(x, 0, 1, 0, 1, 1, 0, 1, 0, 0);
        dueDatagram(x, 1, 2, 0, 1, 1, 2, 1, 0, 0);
        dueDatagram(x, 2, 0, 1, 2, 2, 1, 1, 2, 0);
        fillNetwork(x);
        due("flying", x.flying(), 24);
        due("there is room for what is sent with it", x.deliver(1), 11);
        due("flying", x.flying(), 24);
        dueDatagram(x, 23, 0, 2, 2, 2, 2, 2, 1, 0);
    }

    private static void deliverBeginUpdate() {
        section("promise 7, BEGIN UPDATE");
        RoamingRegisters x = reachable(4);
        x.appear(1, 0);
        x.copy(0);
        x.copy(0);
        due("deliver", x.deliver(0), 11);
        due("doubled: nothing", x.deliver(0), 11);
        dueDialogues(x, 0, 1);
        due("flying", x.flying(), 2);
        x.deliver(1);
        x.deliver(1);
        dueDialogues(x, 0);
        due("the copy opens another", x.deliver(0), 11);
        dueDialogues(x, 0, 2);
        x.appear(2, 1);
        x.deliver(x.flying() - 1);
        dueDialogues(x, 0, 2, 3);
        dueCancellations(x);
        deliverUpdateWhenFour();
    }

    private static void deliverUpdateWhenFour() {
        RoamingRegisters x = reachable(4);
        for (int s = 0; s < 4; s++) {
            x.appear(1 + s / 2, s);
        }
        for (int s = 0; s < 3; s++) {
            x.copy(0);
            x.deliver(0);
        }
        x.appear(3, 3);
        x.appear(4, 2);
        x.deliver(0);
        dueDialogues(x, 0, 1, 2, 3, 4);
        due("location(3)", x.location(3), 2);
        loseAll(x);
        x.appear(3, 0);
        dueDatagram(x, 0, 3, 0, 1, 1, 0, 2, 0, 0);
        x.copy(0);
        due("deliver", x.deliver(0), 11);
        dueDatagram(x, 1, 0, 3, 4, 0, 0, 0, 2, 0);
        due("location(0) is the same", x.location(0), 1);
        dueCancellations(x);
        dueDialogues(x, 0, 1, 2, 3, 4);
        due("deliver the ABORT", x.deliver(1), 40);
        due("registration(3, 0)", x.registration(3, 0), 3);
        dueDialogues(x, 3, 1);
        ticks(x, 6);
        dueDialogues(x, 0);
        due("the copy is taken now", x.deliver(0), 11);
        due("location(0)", x.location(0), 3);
        dueCancellations(x, 4);
    }

    private static void deliverMoves() {
        section("promise 7, moves");
        RoamingRegisters x = registered(3, 1, 2);
        register(x, 1, 2);
        dueCancellations(x);
        register(x, 2, 2);
        dueCancellations(x, 6);
        register(x, 3, 2);
        dueCancellations(x, 6, 10);
        due("location", x.location(2), 3);
        x.tick();
        dueDialogues(x, 0, 5, 6);
        loseAll(x);
        x.appear(1, 2);
        x.deliver(0);
        dueCancellations(x, 10, 14);
        dueDialogues(x, 0, 6, 7);
        dueDatagram(x, 0, 0, 1, 2, 2, 2, 7, 3, 0);
        due("location", x.location(2), 1);
        due("the old node holds it yet", x.holds(3, 2), true);
        x.tick();
        dueDialogues(x, 0, 6, 7, 8);
        dueDatagram(x, 1, 0, 3, 1, 3, 2, 8, 0, 0);
        deliverOneSubscribersMoves();
        deliverMovesKeepQueries();
    }

    private static void deliverMovesKeepQueries() {
        RoamingRegisters x = registered(2, 1, 0);
        x.ask(0);
        x.appear(1, 0);
        x.deliver(1);
        dueDialogues(x, 0, 2, 3);
        x.deliver(0);
        x.deliver(1);
        due("the query goes on", x.answer(2), 100);
        x.ask(0);
        register(x, 2, 0);
        dueCancellations(x, 4);
        due("ask", x.ask(0), 6);
        loseAll(x);
        x.tick();
        dueDialogues(x, 0, 6, 7);
    }

    private static void deliverOneSubscribersMoves() {
        RoamingRegisters x = reachable(2);
        register(x, 1, 0);
        register(x, 1, 1);
        register(x, 2, 0);
        register(x, 2, 1);
        dueCancellations(x, 4, 5);
        x.tick();
        dueDialogues(x, 0, 5, 6);
        x.appear(1, 1);
        x.deliver(2);
        dueCancellations(x, 4, 9);
        dueDialogues(x, 0, 5, 7);
    }

    private static void deliverFullCancellations() {
        section("promise 7, six cancellations");
        RoamingRegisters x = sixCancellations();
        dueCancellations(x, 4, 5, 8, 9, 14, 15);
        x.appear(4, 0);
        due("deliver", x.deliver(0), 11);
        dueDatagram(x, 0, 0, 4, 4, 0, 0, 0, 3, 0);
        due("location(0)", x.location(0), 3);
        dueDialogues(x, 0);
        x.deliver(0);
        due("registration(4, 0)", x.registration(4, 0), 3);
        x.appear(1, 0);
        x.deliver(0);
        due("no room though one would go", x.datagram(0, 2), 4);
        dueCancellations(x, 4, 5, 8, 9, 14, 15);
        x.deliver(0);
        x.appear(3, 0);
        x.deliver(0);
        due("the same location needs no room", x.datagram(0, 2), 2);
        dueCancellations(x, 4, 5, 8, 9, 14, 15);
    }

    private static void deliverInserts() {
        section("promise 7, CONTINUE INSERT");
        RoamingRegisters x = reachable(2);
        x.appear(2, 1);
        x.deliver(0);
        ticks(x, 5);
        x.copy(0);
        due("deliver", x.deliver(0), 22);
        due("holds", x.holds(2, 1), true);
        dueDatagram(x, 1, 2, 0, 2, 2, 1, 1, 1, 0);
        x.copy(1);
        due("at the home", x.deliver(1), 22);
        dueDialogues(x, 0);
        dueDatagram(x, 2, 0, 2, 3, 1, 1, 1, 1, 0);
        due("at the home, not open", x.deliver(1), 22);
        dueDatagram(x, 2, 0, 2, 4, 0, 0, 0, 1, 0);
        ticks(x, 9);
        due("open at 14", x.registration(2, 1), 1);
        x.tick();
        due("failed at 15, 10 after the INSERT", x.registration(2, 1), 3);
        due("the copy, not open", x.deliver(0), 22);
        dueDatagram(x, 2, 2, 0, 4, 0, 0, 0, 1, 0);
        due("still held", x.holds(2, 1), true);
        insertNotOpenHoldsNothing();
    }

    private static void insertNotOpenHoldsNothing() {
        RoamingRegisters x = reachable(2);
        ticks(x, 1);
        x.appear(1, 3);
        ticks(x, 9);
        x.deliver(0);
        x.tick();
        due("failed", x.registration(1, 3), 3);
        due("deliver", x.deliver(0), 22);
        due("not held", x.holds(1, 3), false);
        dueDatagram(x, 0, 1, 0, 4, 0, 0, 0, 1, 0);
        dueDialogues(x, 0, 1);
        due("ABORT at the home", x.deliver(0), 40);
        dueDialogues(x, 0);
        due("the location stays", x.location(3), 1);
    }

    private static void deliverCancels() {
        section("promise 7, CANCEL");
        RoamingRegisters x = registered(2, 1, 3);
        register(x, 2, 3);
        x.tick();
        dueDatagram(x, 0, 0, 1, 1, 3, 3, 3, 0, 0);
        x.appear(1, 2);
        x.appear(1, 3);
        x.copy(0);
        due("deliver", x.deliver(0), 13);
        due("not held", x.holds(1, 3), false);
        due("its registration failed", x.registration(1, 3), 3);
        due("the other one's did not", x.registration(1, 2), 1);
        dueDialogues(x, 1, 2);
        dueDatagram(x, 3, 1, 0, 3, 3, 3, 0, 3, 0);
        due("the copy", x.deliver(2), 13);
        dueDatagram(x, 3, 1, 0, 3, 3, 3, 0, 3, 0);
        dueCancellations(x, 7);
        due("END CANCEL", x.deliver(2), 33);
        dueCancellations(x);
        dueDialogues(x, 0);
        due("END CANCEL, not open", x.deliver(2), 33);
        lateEndCancel();
    }

    private static void lateEndCancel() {
        RoamingRegisters x = registered(2, 1, 3);
        register(x, 2, 3);
        x.tick();
        x.deliver(0);
        ticks(x, 4);
        dueDialogues(x, 0, 4);
        due("END CANCEL of the one that ended", x.deliver(0), 33);
        dueCancellations(x, 7);
        dueDialogues(x, 0, 4);
    }

    private static void deliverProvides() {
        section("promise 7, PROVIDE");
        RoamingRegisters x = registered(3, 3, 1);
        x.ask(1);
        x.copy(0);
        x.copy(0);
        due("deliver", x.deliver(0), 14);
        dueDatagram(x, 2, 3, 0, 3, 4, 1, 0, 2, 300);
        x.deliver(0);
        dueDatagram(x, 2, 3, 0, 3, 4, 1, 0, 2, 301);
        x.deliver(0);
        dueDatagram(x, 2, 3, 0, 3, 4, 1, 0, 2, -2);
        due("the second first", x.deliver(1), 34);
        due("answer", x.answer(2), 301);
        dueDialogues(x, 0);
        due("the first", x.deliver(0), 34);
        due("answer stays", x.answer(2), 301);
        x.call(300);
        x.ask(1);
        x.deliver(1);
        due("the lower one is free again", x.datagram(1, 7), 300);
    }

    private static void deliverEndUpdateAndAbort() {
        section("promise 7, END UPDATE and ABORT");
        RoamingRegisters x = reachable(2);
        x.appear(1, 1);
        x.deliver(0);
        x.deliver(0);
        x.deliver(0);
        x.copy(0);
        due("deliver", x.deliver(0), 31);
        due("DONE", x.registration(1, 1), 2);
        dueDialogues(x, 1);
        x.appear(1, 1);
        due("the copy ends no other", x.deliver(0), 31);
        due("open", x.registration(1, 1), 1);
        dueDialogues(x, 1, 2);
        x.deliver(0);
        ticks(x, 6);
        dueDatagram(x, 1, 0, 1, 4, 0, 0, 2, 2, 0);
        due("ABORT", x.deliver(1), 40);
        due("FAILED", x.registration(1, 1), 3);
        x.appear(1, 1);
        x.deliver(0);
        due("ABORT at the home, not open", x.deliver(x.flying() - 1), 40);
        due("open", x.registration(1, 1), 1);
        endUpdateEndsOneDialogue();
    }

    private static void endUpdateEndsOneDialogue() {
        RoamingRegisters x = registered(2, 1, 1);
        x.appear(2, 2);
        x.deliver(0);
        x.deliver(0);
        x.deliver(0);
        x.ask(1);
        due("END UPDATE", x.deliver(0), 31);
        dueDialogues(x, 2);
        dueDialogues(x, 0, 3);
        due("the home's query goes on", x.answer(3), OPEN);
    }

    private static void lose() {
        section("promise 8");
        RoamingRegisters x = reachable(2);
        due("lose(0)", x.lose(0), false);
        x.appear(1, 0);
        x.appear(1, 1);
        x.appear(2, 2);
        int[] bad = {-1, 3, 24, MIN, MAX};
        for (int i : bad) {
            due("lose of none", x.lose(i), false);
        }
        due("flying", x.flying(), 3);
        due("lose(1)", x.lose(1), true);
        due("flying", x.flying(), 2);
        due("the first", x.datagram(0, 4), 0);
        due("the second", x.datagram(1, 4), 2);
        due("nothing arrived", x.location(1), 0);
        due("the last", x.lose(1), true);
        due("the only", x.lose(0), true);
        due("none", x.lose(0), false);
        due("flying", x.flying(), 0);
    }

    private static void copy() {
        section("promise 9");
        RoamingRegisters x = registered(2, 1, 3);
        due("copy(0)", x.copy(0), false);
        x.ask(3);
        x.deliver(0);
        x.appear(2, 1);
        int[] bad = {-1, 2, MIN, MAX};
        for (int i : bad) {
            due("copy of none", x.copy(i), false);
        }
        due("copy(0)", x.copy(0), true);
        due("flying", x.flying(), 3);
        dueDatagram(x, 0, 1, 0, 3, 4, 3, 0, 2, 100);
        dueDatagram(x, 1, 2, 0, 1, 1, 1, 1, 0, 0);
        dueDatagram(x, 2, 1, 0, 3, 4, 3, 0, 2, 100);
        x.lose(0);
        dueDatagram(x, 1, 1, 0, 3, 4, 3, 0, 2, 100);
        for (int n = 2; n < 24; n++) {
            due("copy(1)", x.copy(1), true);
        }
        due("24 in flight", x.copy(0), false);
        due("flying", x.flying(), 24);
        x.lose(23);
        due("room again", x.copy(0), true);
        dueDatagram(x, 23, 2, 0, 1, 1, 1, 1, 0, 0);
    }

    private static void flying() {
        section("promise 10");
        RoamingRegisters x = reachable(2);
        due("flying", x.flying(), 0);
        x.appear(1, 0);
        due("flying", x.flying(), 1);
        x.copy(0);
        due("flying", x.flying(), 2);
        x.deliver(0);
        due("one went, one came", x.flying(), 2);
        x.deliver(0);
        due("doubled: nothing came", x.flying(), 1);
        x.lose(0);
        due("flying", x.flying(), 0);
    }

    private static void datagram() {
        section("promise 11");
        RoamingRegisters x = reachable(2);
        due("none", x.datagram(0, 0), BAD);
        x.appear(2, 3);
        dueDatagram(x, 0, 2, 0, 1, 1, 3, 1, 0, 0);
        int[] bad = {-1, 8, MIN, MAX};
        for (int n : bad) {
            due("any other number", x.datagram(0, n), BAD);
            due("no such datagram", x.datagram(n, 0), BAD);
        }
        due("datagram(1, 0)", x.datagram(1, 0), BAD);
        x.deliver(0);
        dueDatagram(x, 0, 0, 2, 2, 2, 3, 1, 1, 0);
        x.deliver(0);
        dueDatagram(x, 0, 2, 0, 2, 2, 3, 1, 1, 0);
        x.deliver(0);
        dueDatagram(x, 0, 0, 2, 3, 1, 3, 1, 1, 0);
    }

    private static void tickDeadlines() {
        section("promise 12, deadlines");
        RoamingRegisters x = reachable(3);
        for (int n = 1; n <= 4; n++) {
            due("tick", x.tick(), n);
        }
        x.appear(1, 0);
        x.appear(2, 1);
        x.appear(2, 2);
        x.deliver(1);
        x.deliver(0);
        x.deliver(0);
        dueDialogues(x, 0, 1, 2, 3);
        loseAll(x);
        ticks(x, 5);
        dueDialogues(x, 0, 1, 2, 3);
        due("tick", x.tick(), 10);
        dueDialogues(x, 0);
        due("flying", x.flying(), 3);
        dueDatagram(x, 0, 0, 2, 4, 0, 0, 1, 1, 0);
        dueDatagram(x, 1, 0, 1, 4, 0, 0, 2, 1, 0);
        dueDatagram(x, 2, 0, 2, 4, 0, 0, 3, 2, 0);
        ticks(x, 4);
        due("all FAILED", x.registration(1, 0) + x.registration(2, 1) + x.registration(2, 2), 9);
        dueDialogues(x, 2);
        tickSomeDue();
        tickLaterOneDueFirst();
    }

    private static void tickLaterOneDueFirst() {
        RoamingRegisters x = registered(2, 1, 0);
        register(x, 2, 0);
        x.ask(0);
        x.tick();
        dueDialogues(x, 0, 3, 4);
        x.deliver(1);
        x.lose(1);
        ticks(x, 3);
        dueDialogues(x, 0, 3, 4);
        x.tick();
        dueDialogues(x, 0, 3, 5);
        x.tick();
        dueDialogues(x, 0, 5);
    }

    private static void tickSomeDue() {
        RoamingRegisters x = registered(2, 1, 0);
        x.ask(0);
        x.tick();
        x.ask(0);
        x.ask(0);
        x.tick();
        x.ask(0);
        ticks(x, 4);
        dueDialogues(x, 0, 3, 4, 5);
        x.tick();
        dueDialogues(x, 0, 5);
        due("answer(2)", x.answer(2), -3);
        due("answer(4)", x.answer(4), -3);
        due("answer(5)", x.answer(5), OPEN);
        x.tick();
        dueDialogues(x, 0);
    }

    private static void tickCancels() {
        section("promise 12, cancels");
        RoamingRegisters x = sixCancellations();
        x.tick();
        dueDialogues(x, 0, 11, 12, 13, 14);
        dueDatagram(x, 0, 0, 1, 1, 3, 0, 11, 0, 0);
        dueDatagram(x, 1, 0, 1, 1, 3, 1, 12, 0, 0);
        dueDatagram(x, 2, 0, 2, 1, 3, 0, 13, 0, 0);
        dueDatagram(x, 3, 0, 2, 1, 3, 1, 14, 0, 0);
        x.tick();
        due("no more while four are open", x.flying(), 4);
        x.deliver(1);
        x.deliver(3);
        dueCancellations(x, 4, 8, 9, 14, 15);
        x.tick();
        dueDialogues(x, 0, 11, 13, 14, 15);
        due("flying", x.flying(), 4);
        dueDatagram(x, 3, 0, 3, 1, 3, 2, 15, 0, 0);
        x.tick();
        dueDialogues(x, 0, 11, 13, 14, 15);
        due("clock", x.tick(), 5);
        dueDialogues(x, 0, 15, 16, 17, 18);
        dueDatagram(x, 4, 0, 1, 1, 3, 0, 16, 0, 0);
        dueDatagram(x, 5, 0, 2, 1, 3, 0, 17, 0, 0);
        dueDatagram(x, 6, 0, 2, 1, 3, 1, 18, 0, 0);
        tickCancelsWhenFull();
    }

    private static void tickCancelsWhenFull() {
        RoamingRegisters x = registered(2, 1, 0);
        register(x, 2, 0);
        x.appear(1, 1);
        fillNetwork(x);
        x.tick();
        dueDialogues(x, 0, 3);
        due("flying", x.flying(), 24);
        due("the last is the old", x.datagram(23, 3), 1);
    }

    private static void tickNumbers() {
        section("promise 12, numbers");
        RoamingRegisters x = registered(2, 1, 2);
        x.tick();
        x.ask(2);
        deliverAll(x);
        x.tick();
        x.ask(2);
        deliverAll(x);
        due("answer", x.answer(3), 101);
        ticks(x, 6);
        x.ask(2);
        deliverAll(x);
        due("none free at 8", x.answer(4), -2);
        x.tick();
        due("100 is free at 9", x.call(100), -1);
        due("101 is not", x.call(101), 2);
        x.ask(2);
        deliverAll(x);
        due("allotted anew", x.answer(5), 100);
        x.tick();
        x.ask(2);
        deliverAll(x);
        due("101 anew at 10", x.answer(6), 101);
        ticks(x, 7);
        due("100 until 17", x.call(100), -1);
        due("101 until 18", x.call(101), 2);
    }

    private static void holds() {
        section("promise 13");
        RoamingRegisters x = registered(2, 2, 3);
        for (int v = 1; v <= 2; v++) {
            for (int s = 0; s < 4; s++) {
                due("holds", x.holds(v, s), v == 2 && s == 3);
            }
        }
        int[][] bad = {{0, 3}, {-1, 3}, {3, 3}, {MIN, 3}, {MAX, 3}, {2, -1}, {2, 4}, {2, MIN}, {2, MAX}, {1, 7}, {3, -1}};
        for (int[] row : bad) {
            due("holds of none", x.holds(row[0], row[1]), false);
        }
        register(x, 1, 3);
        due("both for a time", x.holds(2, 3) && x.holds(1, 3), true);
        x.tick();
        deliverAll(x);
        due("taken away", x.holds(2, 3), false);
        due("given", x.holds(1, 3), true);
    }

    private static void location() {
        section("promise 14");
        RoamingRegisters x = registered(4, 4, 3);
        due("location(3)", x.location(3), 4);
        due("location(0)", x.location(0), 0);
        int[] bad = {-1, 4, MIN, MAX};
        for (int s : bad) {
            due("location of none", x.location(s), BAD);
        }
        x.appear(2, 3);
        due("not yet known", x.location(3), 4);
        x.deliver(0);
        due("known", x.location(3), 2);
    }

    private static void registration() {
        section("promise 15");
        RoamingRegisters x = reachable(3);
        due("none", x.registration(3, 3), 0);
        x.appear(3, 3);
        due("open", x.registration(3, 3), 1);
        deliverAll(x);
        due("DONE", x.registration(3, 3), 2);
        due("another subscriber", x.registration(3, 2), 0);
        due("another node", x.registration(2, 3), 0);
        x.appear(3, 3);
        due("open again", x.registration(3, 3), 1);
        ticks(x, 10);
        due("FAILED", x.registration(3, 3), 3);
        int[][] bad = {{0, 3}, {-1, 3}, {4, 3}, {MIN, 3}, {MAX, 3}, {3, -1}, {3, 4}, {3, MIN}, {3, MAX}, {2, 7}};
        for (int[] row : bad) {
            due("registration of none", x.registration(row[0], row[1]), BAD);
        }
    }

    private static void dialogues() {
        section("promise 16");
        RoamingRegisters x = reachable(3);
        x.appear(3, 0);
        x.appear(3, 1);
        x.deliver(0);
        due("dialogues(0)", x.dialogues(0), 1);
        due("dialogues(1)", x.dialogues(1), 0);
        due("dialogues(3)", x.dialogues(3), 2);
        int[] bad = {-1, 4, MIN, MAX};
        for (int node : bad) {
            due("dialogues of none", x.dialogues(node), BAD);
        }
        deliverAll(x);
        due("dialogues(0)", x.dialogues(0), 0);
        due("dialogues(3)", x.dialogues(3), 0);
    }

    private static void dialogue() {
        section("promise 17");
        RoamingRegisters x = registered(2, 1, 0);
        for (int n = 0; n < 4; n++) {
            x.ask(0);
        }
        dueDialogues(x, 0, 2, 3, 4, 5);
        x.deliver(1);
        x.deliver(3);
        dueDialogues(x, 0, 2, 4, 5);
        x.ask(0);
        dueDialogues(x, 0, 2, 4, 5, 6);
        int[] bad = {-1, 4, MIN, MAX};
        for (int n : bad) {
            due("dialogue of no such k", x.dialogue(0, n), BAD);
            due("dialogue of no such node", x.dialogue(n, 0), BAD);
        }
        due("dialogue(3, 0)", x.dialogue(3, 0), BAD);
        due("dialogue(1, 0)", x.dialogue(1, 0), BAD);
        x.appear(1, 1);
        due("dialogue(1, 0)", x.dialogue(1, 0), 2);
    }

    private static void cancellation() {
        section("promise 18");
        RoamingRegisters x = registered(4, 4, 3);
        register(x, 1, 3);
        due("cancellation(0)", x.cancellation(0), 19);
        int[] none = {-1, 1, 5, 6, 7, MIN, MAX};
        for (int k : none) {
            due("cancellation of none", x.cancellation(k), -1);
        }
        RoamingRegisters six = sixCancellations();
        due("cancellation(5)", six.cancellation(5), 15);
        due("cancellation(6)", six.cancellation(6), -1);
    }

    private static void call() {
        section("promise 19");
        RoamingRegisters x = registered(2, 2, 3);
        x.ask(3);
        x.ask(3);
        deliverAll(x);
        int[] bad = {-1, 0, 1, 99, 102, 199, 202, 300, 301, -100, -200, -201, MIN, MAX};
        for (int number : bad) {
            due("call of none", x.call(number), BAD);
        }
        due("call(100)", x.call(100), -1);
        due("call(101)", x.call(101), -1);
        due("call(201)", x.call(201), 3);
        due("call(201) again", x.call(201), -1);
        due("call(200)", x.call(200), 3);
        x.ask(3);
        deliverAll(x);
        due("free, so allotted anew", x.answer(4), 200);
    }
}
