/** The edges of what happens "WHEN A DATAGRAM ARRIVES", sentence by sentence. */
public final class ArrivalEdges extends Checks {
    public static void main(String[] args) {
        takenOutFirst();
        updateAlreadyOpen();
        updateOpenForAnother();
        updateWithFourOpen();
        updateWithSixCancellations();
        updateLeavesALocation();
        updateTakesACancellationAway();
        updateEndsACancel();
        updateMovesAndOpens();
        insertAtVisitedOpen();
        insertAtVisitedNotOpen();
        insertAtHomeOpen();
        insertAtHomeNotOpen();
        endUpdate();
        beginCancel();
        endCancel();
        provideNotHeld();
        provideLowerFree();
        provideNoneFree();
        endProvide();
        abortOfARegistration();
        abortOfAnUpdate();
        end();
    }

    /** Datagram 0 arrives while 24 are in flight, and the answer that is sent with that is the last one. */
    private static void dueAnswerWhenFull(String what, RoamingRegisters x, int code, int... answer) {
        fillNetwork(x);
        due(what, x.deliver(0), code);
        due("flying", x.flying(), 24);
        dueDatagram(x, 23, answer);
    }

    private static void takenOutFirst() {
        section("it is first taken out of the list (so there is room for one that is sent with that)");
        RoamingRegisters x = reachable(2);
        x.appear(1, 3);
        dueAnswerWhenFull("BEGIN UPDATE", x, 11, 0, 1, 2, 2, 3, 1, 1, 0);
        due("doubled: nothing is sent", x.deliver(0), 11);
        due("so one is fewer", x.flying(), 23);
        RoamingRegisters y = reachable(2);
        y.appear(1, 3);
        y.deliver(0);
        dueAnswerWhenFull("CONTINUE INSERT at 1", y, 22, 1, 0, 2, 2, 3, 1, 1, 0);
        RoamingRegisters z = reachable(2);
        z.appear(1, 3);
        z.deliver(0);
        z.deliver(0);
        dueAnswerWhenFull("CONTINUE INSERT at 0", z, 22, 0, 1, 3, 1, 3, 1, 1, 0);
        due("again, not open", z.deliver(0), 22);
        dueDatagram(z, 23, 0, 1, 4, 0, 0, 0, 1, 0);
        RoamingRegisters c = registered(2, 1, 3);
        register(c, 2, 3);
        c.tick();
        dueAnswerWhenFull("BEGIN CANCEL", c, 13, 1, 0, 3, 3, 3, 0, 3, 0);
        RoamingRegisters p = registered(2, 1, 3);
        p.ask(3);
        dueAnswerWhenFull("BEGIN PROVIDE", p, 14, 1, 0, 3, 4, 3, 0, 2, 100);
    }

    private static void updateAlreadyOpen() {
        section("BEGIN UPDATE at the home from node v, dialogue d, about s: nothing, if an UPDATE with v and d is open.");
        RoamingRegisters x = registered(3, 1, 0);
        x.appear(2, 0);
        x.copy(0);
        x.copy(0);
        x.deliver(0);
        String before = look(x, 0);
        x.copy(0);
        due("doubled", x.deliver(3), 11);
        due("nothing", look(x, 0), before);
        x.ask(0);
        x.ask(0);
        x.ask(0);
        dueDialogues(x, 0, 2, 3, 4, 5);
        before = look(x, 5);
        x.copy(0);
        x.deliver(x.flying() - 1);
        due("nothing, not ABORT, though four are open", look(x, 5), before);
        x.deliver(2);
        x.deliver(x.flying() - 1);
        dueDialogues(x, 0, 3, 4, 5);
        x.copy(0);
        x.deliver(x.flying() - 1);
        dueDialogues(x, 0, 3, 4, 5, 6);
        due("one that has ended is none", x.datagram(x.flying() - 1, 5), 6);
    }

    private static void updateOpenForAnother() {
        section("nothing, if an UPDATE with v and d is open.");
        RoamingRegisters x = reachable(2);
        x.appear(1, 0);
        x.appear(2, 0);
        x.appear(1, 1);
        x.deliver(0);
        x.deliver(0);
        dueDialogues(x, 0, 1, 2);
        due("the same d with another v", x.location(0), 2);
        x.deliver(0);
        dueDialogues(x, 0, 1, 2, 3);
        due("another d with the same v", x.location(1), 1);
        queryIsNoUpdate();
    }

    private static void queryIsNoUpdate() {
        RoamingRegisters x = registered(2, 1, 0);
        x.ask(0);
        x.appear(1, 0);
        x.deliver(1);
        dueDialogues(x, 0, 2, 3);
        RoamingRegisters c = registered(2, 1, 0);
        register(c, 2, 0);
        c.tick();
        c.appear(1, 1);
        c.deliver(1);
        dueDialogues(c, 0, 3, 4);
    }

    private static void updateWithFourOpen() {
        section("Otherwise, if four dialogues are open, [..] ABORT to d is sent (from 0).");
        RoamingRegisters x = registered(3, 1, 0);
        register(x, 3, 1);
        x.ask(0);
        x.ask(0);
        x.ask(0);
        x.appear(2, 2);
        x.deliver(3);
        dueDialogues(x, 0, 3, 4, 5, 6);
        due("three open: taken", x.location(2), 2);
        loseAll(x);
        x.appear(2, 1);
        String before = look(x, 5);
        x.copy(0);
        due("four open", x.deliver(1), 11);
        dueDatagram(x, 1, 0, 2, 4, 0, 0, 0, 2, 0);
        due("location", x.location(1), 3);
        x.lose(1);
        due("nothing else is changed", look(x, 5), before);
        x.appear(1, 3);
        x.deliver(1);
        dueDatagram(x, 1, 0, 1, 4, 0, 0, 0, 2, 0);
        due("without a location too", x.location(3), 0);
        fourWithTheCancelThatWouldEnd();
    }

    private static void fourWithTheCancelThatWouldEnd() {
        RoamingRegisters x = moved(9);
        x.tick();
        loseAll(x);
        x.appear(1, 0);
        x.deliver(0);
        due("four are open though one of them would end", x.datagram(0, 2), 4);
        dueDialogues(x, 0, 10, 11, 12, 13);
        dueCancellations(x, 4, 5, 8, 9, 14);
    }

    private static void updateWithSixCancellations() {
        section("or s has a location other than v and that is no cancellation yet and there are six: ABORT to d is sent (from 0).");
        RoamingRegisters five = moved(9);
        five.appear(4, 0);
        five.deliver(0);
        dueCancellations(five, 4, 5, 8, 9, 14, 12);
        due("five: taken", five.location(0), 4);
        RoamingRegisters x = sixCancellations();
        x.appear(4, 1);
        String before = look(x, 0);
        x.copy(0);
        due("six", x.deliver(1), 11);
        dueDatagram(x, 1, 0, 4, 4, 0, 0, 0, 3, 0);
        x.lose(1);
        due("nothing else is changed", look(x, 0), before);
        loseAll(x);
        x.appear(2, 1);
        x.deliver(0);
        due("six, though one of them would go", x.datagram(0, 2), 4);
        dueCancellations(x, 4, 5, 8, 9, 14, 15);
        loseAll(x);
        x.appear(3, 1);
        x.deliver(0);
        due("no other location: taken", x.datagram(0, 2), 2);
        dueCancellations(x, 4, 5, 8, 9, 14, 15);
        sixAndNoLocation();
    }

    private static void sixAndNoLocation() {
        RoamingRegisters x = reachable(4);
        for (int s = 0; s < 2; s++) {
            for (int v = 1; v <= 4; v++) {
                register(x, v, s);
            }
        }
        dueCancellations(x, 4, 8, 12, 5, 9, 13);
        x.appear(1, 2);
        x.deliver(0);
        due("no location: taken", x.location(2), 1);
        dueDatagram(x, 0, 0, 1, 2, 2, 2, 9, 3, 0);
        loseAll(x);
        x.appear(2, 2);
        x.deliver(0);
        due("a location: not taken", x.location(2), 1);
        dueDatagram(x, 0, 0, 2, 4, 0, 0, 0, 3, 0);
    }

    private static void updateLeavesALocation() {
        section("if s has a location other than v, that location and s become a cancellation, the last one, if they aren't one");
        RoamingRegisters x = registered(4, 2, 3);
        dueCancellations(x);
        register(x, 2, 3);
        dueCancellations(x);
        register(x, 4, 3);
        dueCancellations(x, 11);
        register(x, 3, 3);
        dueCancellations(x, 11, 19);
        register(x, 2, 2);
        register(x, 1, 2);
        dueCancellations(x, 11, 19, 10);
        due("location(3)", x.location(3), 3);
    }

    private static void updateTakesACancellationAway() {
        section("v and s are no cancellation any more");
        int[][] ways = {{1, 8, 12, 16}, {2, 4, 12, 16}, {3, 4, 8, 16}};
        for (int[] way : ways) {
            RoamingRegisters x = reachable(4);
            for (int v = 1; v <= 4; v++) {
                register(x, v, 0);
            }
            dueCancellations(x, 4, 8, 12);
            register(x, way[0], 0);
            dueCancellations(x, way[1], way[2], way[3]);
        }
        RoamingRegisters other = reachable(2);
        register(other, 1, 0);
        register(other, 1, 1);
        register(other, 2, 0);
        register(other, 1, 1);
        dueCancellations(other, 4);
        register(other, 2, 1);
        dueCancellations(other, 4, 5);
        register(other, 1, 1);
        dueCancellations(other, 4, 9);
    }

    private static void updateEndsACancel() {
        section("an open CANCEL with v about s ends");
        RoamingRegisters x = registered(2, 1, 0);
        register(x, 1, 1);
        register(x, 2, 0);
        register(x, 2, 1);
        x.tick();
        dueDialogues(x, 0, 5, 6);
        x.deliver(0);
        x.appear(1, 0);
        x.deliver(2);
        dueDialogues(x, 0, 6, 7);
        dueCancellations(x, 5, 8);
        due("END CANCEL of the one that ended", x.deliver(1), 33);
        dueDialogues(x, 0, 6, 7);
        dueCancellations(x, 5, 8);
        loseAll(x);
        x.tick();
        dueDialogues(x, 0, 6, 7, 8);
        dueDatagram(x, 0, 0, 2, 1, 3, 0, 8, 0, 0);
    }

    private static void updateMovesAndOpens() {
        section("the location becomes v; an UPDATE with v and d is opened, its deadline the clock and 6;"
            + " CONTINUE INSERT from it to d is sent.");
        RoamingRegisters x = reachable(3);
        ticks(x, 7);
        x.appear(3, 2);
        ticks(x, 2);
        due("not before it arrives", x.location(2), 0);
        x.deliver(0);
        due("location", x.location(2), 3);
        dueDatagram(x, 0, 0, 3, 2, 2, 2, 1, 1, 0);
        ticks(x, 5);
        dueDialogues(x, 0, 1);
        due("tick", x.tick(), 15);
        dueDialogues(x, 0);
        due("the location stays", x.location(2), 3);
    }

    private static void insertAtVisitedOpen() {
        section("CONTINUE INSERT at a visited node: if the receiver's dialogue is open: the node holds the record,"
            + " the deadline is the clock and 10, and CONTINUE INSERT from the dialogue to the sender's is sent.");
        RoamingRegisters x = reachable(2);
        x.appear(2, 3);
        x.deliver(0);
        ticks(x, 9);
        x.copy(0);
        due("at 9", x.deliver(0), 22);
        due("held", x.holds(2, 3), true);
        dueDatagram(x, 2, 2, 0, 2, 2, 3, 1, 1, 0);
        ticks(x, 9);
        due("open at 18", x.registration(2, 3), 1);
        due("the copy at 18", x.deliver(1), 22);
        dueDatagram(x, 2, 2, 0, 2, 2, 3, 1, 1, 0);
        ticks(x, 9);
        due("open at 27", x.registration(2, 3), 1);
        due("tick", x.tick(), 28);
        due("FAILED at 28", x.registration(2, 3), 3);
    }

    private static void insertAtVisitedNotOpen() {
        section("CONTINUE INSERT at a visited node: [..] Otherwise ABORT to the sender's dialogue is sent (from 0).");
        RoamingRegisters x = reachable(2);
        x.appear(2, 3);
        ticks(x, 9);
        x.deliver(0);
        x.tick();
        x.appear(2, 3);
        due("of the one that FAILED", x.deliver(0), 22);
        due("not held", x.holds(2, 3), false);
        due("the new one stays open", x.registration(2, 3), 1);
        dueDatagram(x, 1, 2, 0, 4, 0, 0, 0, 1, 0);
        RoamingRegisters done = reachable(2);
        done.appear(2, 3);
        done.deliver(0);
        done.copy(0);
        done.deliver(0);
        done.deliver(1);
        done.deliver(1);
        due("DONE", done.registration(2, 3), 2);
        done.deliver(0);
        dueDatagram(done, 0, 2, 0, 4, 0, 0, 0, 1, 0);
        due("DONE stays", done.registration(2, 3), 2);
        due("held stays", done.holds(2, 3), true);
    }

    private static void insertAtHomeOpen() {
        section("CONTINUE INSERT at the home: if the receiver's dialogue is open, it ends, and END UPDATE from it to the sender's is sent.");
        RoamingRegisters x = registered(3, 3, 1);
        x.ask(1);
        x.appear(3, 2);
        x.appear(3, 1);
        x.deliver(2);
        x.deliver(1);
        dueDialogues(x, 0, 2, 3, 4);
        x.deliver(1);
        due("deliver", x.deliver(2), 22);
        dueDialogues(x, 0, 2, 4);
        dueDatagram(x, 2, 0, 3, 3, 1, 1, 3, 3, 0);
        dueDialogues(x, 3, 2, 3);
    }

    private static void insertAtHomeNotOpen() {
        section("CONTINUE INSERT at the home: [..] Otherwise ABORT to the sender's dialogue is sent (from 0).");
        RoamingRegisters x = reachable(2);
        x.appear(2, 3);
        x.deliver(0);
        x.deliver(0);
        ticks(x, 6);
        x.lose(1);
        dueDialogues(x, 0);
        due("of the UPDATE that was given up", x.deliver(0), 22);
        dueDatagram(x, 0, 0, 2, 4, 0, 0, 0, 1, 0);
        x.deliver(0);
        due("FAILED", x.registration(2, 3), 3);
        due("held all the same", x.holds(2, 3), true);
        due("and the location stays", x.location(3), 2);
    }

    private static void endUpdate() {
        section("END UPDATE at a visited node: the receiver's dialogue, if open, ends: the registration is DONE.");
        RoamingRegisters x = reachable(2);
        x.appear(1, 1);
        x.appear(1, 2);
        x.deliver(1);
        x.deliver(1);
        x.deliver(1);
        x.copy(1);
        due("open", x.deliver(1), 31);
        due("DONE", x.registration(1, 2), 2);
        due("the other stays", x.registration(1, 1), 1);
        dueDialogues(x, 1, 1);
        x.appear(1, 2);
        due("not open", x.deliver(1), 31);
        dueDialogues(x, 1, 1, 3);
        due("the new one stays", x.registration(1, 2), 1);
        due("nothing is sent", x.flying(), 2);
        endUpdateTooLate();
    }

    private static void endUpdateTooLate() {
        RoamingRegisters x = reachable(2);
        x.appear(1, 1);
        x.deliver(0);
        x.deliver(0);
        x.deliver(0);
        ticks(x, 10);
        due("FAILED", x.registration(1, 1), 3);
        due("too late", x.deliver(0), 31);
        due("FAILED stays", x.registration(1, 1), 3);
    }

    private static void beginCancel() {
        section("BEGIN CANCEL at a visited node, about s: it does not hold the record any more, its open registration of s, if any,"
            + " ends and FAILED, and END CANCEL to the sender's dialogue is sent (from 0).");
        RoamingRegisters x = registered(2, 1, 3);
        register(x, 1, 2);
        register(x, 2, 3);
        x.tick();
        x.copy(0);
        due("no registration is open", x.deliver(0), 13);
        due("not held", x.holds(1, 3), false);
        due("the other record stays", x.holds(1, 2), true);
        due("DONE stays", x.registration(1, 3), 2);
        dueDatagram(x, 1, 1, 0, 3, 3, 3, 0, 4, 0);
        x.appear(1, 2);
        x.appear(1, 3);
        due("not held, a registration is open", x.deliver(0), 13);
        dueDatagram(x, 3, 1, 0, 3, 3, 3, 0, 4, 0);
        due("FAILED", x.registration(1, 3), 3);
        due("of s alone", x.registration(1, 2), 1);
        due("at this node alone", x.holds(2, 3), true);
        due("and DONE there", x.registration(2, 3), 2);
        dueDialogues(x, 1, 3);
    }

    private static void endCancel() {
        section("END CANCEL at the home: the receiver's dialogue, if open, ends, and its node and subscriber are no cancellation any more.");
        RoamingRegisters x = sixCancellations();
        x.tick();
        x.deliver(2);
        x.copy(3);
        dueCancellations(x, 4, 5, 8, 9, 14, 15);
        due("open", x.deliver(3), 33);
        dueCancellations(x, 4, 5, 9, 14, 15);
        dueDialogues(x, 0, 11, 12, 14);
        due("not open", x.deliver(3), 33);
        dueCancellations(x, 4, 5, 9, 14, 15);
        dueDialogues(x, 0, 11, 12, 14);
        due("nothing is sent", x.flying(), 3);
        endCancelOfAnEarlierOne();
    }

    private static void endCancelOfAnEarlierOne() {
        RoamingRegisters x = registered(2, 1, 0);
        register(x, 2, 0);
        x.tick();
        x.deliver(0);
        ticks(x, 4);
        dueDialogues(x, 0, 4);
        x.deliver(0);
        dueDialogues(x, 0, 4);
        dueCancellations(x, 4);
    }

    private static void provideNotHeld() {
        section("with a value: -1 if it does not hold the record;");
        RoamingRegisters x = registered(2, 1, 0);
        x.appear(1, 1);
        x.deliver(0);
        x.ask(1);
        x.copy(1);
        due("deliver", x.deliver(1), 14);
        dueDatagram(x, 2, 1, 0, 3, 4, 1, 0, 3, -1);
        due("no number is allotted", x.call(100), -1);
        x.ask(0);
        x.deliver(3);
        x.ask(0);
        x.deliver(4);
        due("the other number", x.datagram(4, 7), 101);
        x.deliver(1);
        due("-1, not -2, with none free", x.datagram(4, 7), -1);
    }

    private static void provideLowerFree() {
        section("otherwise the lower one of its numbers that are free, which is allotted to s until the clock and 8;");
        RoamingRegisters x = registered(4, 4, 3);
        register(x, 4, 2);
        ticks(x, 3);
        int[] askers = {3, 2};
        for (int n = 0; n < 2; n++) {
            x.ask(askers[n]);
            x.deliver(0);
            dueDatagram(x, 0, 4, 0, 3, 4, askers[n], 0, 3 + n, 400 + n);
            deliverAll(x);
        }
        due("the lower one is called", x.call(400), 3);
        x.ask(2);
        deliverAll(x);
        due("the lower one is free again", x.answer(5), 400);
        due("the higher one is called", x.call(401), 2);
        x.ask(3);
        deliverAll(x);
        due("the higher one is free alone", x.answer(6), 401);
        ticks(x, 7);
        due("allotted at 10", x.call(401), 3);
        due("tick", x.tick(), 11);
        due("free at 11", x.call(400), -1);
    }

    private static void provideNoneFree() {
        section("-2 if none is free.");
        RoamingRegisters x = registered(2, 1, 0);
        for (int n = 0; n < 3; n++) {
            x.ask(0);
            deliverAll(x);
        }
        due("the first", x.answer(2), 100);
        due("the second", x.answer(3), 101);
        due("none free", x.answer(4), -2);
        due("the owner stays", x.call(100), 0);
        register(x, 2, 0);
        x.ask(0);
        deliverAll(x);
        due("another node has its own", x.answer(6), 200);
    }

    private static void endProvide() {
        section("END PROVIDE at the home: the receiver's dialogue, if open, ends, and the query's answer is the value.");
        RoamingRegisters x = registered(2, 1, 0);
        x.ask(0);
        x.ask(0);
        x.copy(0);
        x.deliver(0);
        x.deliver(0);
        x.deliver(0);
        due("of the other query", x.deliver(1), 34);
        due("answer(3)", x.answer(3), 101);
        due("answer(2)", x.answer(2), OPEN);
        dueDialogues(x, 0, 2);
        due("the later value first", x.deliver(1), 34);
        due("answer(2)", x.answer(2), -2);
        dueDialogues(x, 0);
        due("not open", x.deliver(0), 34);
        due("the answer stays", x.answer(2), -2);
        endProvideTooLate();
    }

    private static void endProvideTooLate() {
        RoamingRegisters x = registered(2, 1, 0);
        x.ask(0);
        x.deliver(0);
        ticks(x, 5);
        x.copy(0);
        x.tick();
        due("too late at 6", x.deliver(0), 34);
        due("answer", x.answer(2), -3);
        x.ask(0);
        x.deliver(0);
        due("it ends no other", x.answer(3), OPEN);
    }

    private static void abortOfARegistration() {
        section("ABORT: the receiver's dialogue, if open, ends; a registration FAILED.");
        RoamingRegisters x = registered(2, 1, 0);
        for (int n = 0; n < 4; n++) {
            x.ask(0);
        }
        loseAll(x);
        x.appear(1, 1);
        x.appear(1, 2);
        x.deliver(1);
        x.copy(1);
        due("open", x.deliver(1), 40);
        due("FAILED", x.registration(1, 2), 3);
        due("the other stays", x.registration(1, 1), 1);
        dueDialogues(x, 1, 2);
        x.appear(1, 2);
        due("not open", x.deliver(1), 40);
        due("the new one stays", x.registration(1, 2), 1);
        dueDialogues(x, 1, 2, 4);
        due("nothing is sent", x.flying(), 2);
        abortAfterDone();
    }

    private static void abortAfterDone() {
        RoamingRegisters x = reachable(2);
        x.appear(1, 0);
        x.deliver(0);
        x.deliver(0);
        x.copy(0);
        x.deliver(0);
        x.deliver(0);
        dueDatagram(x, 1, 0, 1, 4, 0, 0, 0, 1, 0);
        x.deliver(0);
        due("DONE", x.registration(1, 0), 2);
        due("ABORT after that", x.deliver(0), 40);
        due("DONE stays", x.registration(1, 0), 2);
    }

    private static void abortOfAnUpdate() {
        section("with ABORT a registration or an UPDATE.)");
        RoamingRegisters x = registered(2, 1, 0);
        x.appear(1, 1);
        x.copy(0);
        ticks(x, 10);
        x.deliver(0);
        x.deliver(1);
        x.copy(1);
        x.ask(0);
        dueDialogues(x, 0, 2, 3);
        dueDatagram(x, 1, 1, 0, 4, 0, 0, 0, 2, 0);
        due("open", x.deliver(1), 40);
        dueDialogues(x, 0, 3);
        due("the location stays", x.location(1), 1);
        due("registration stays", x.registration(1, 1), 3);
        due("not open", x.deliver(1), 40);
        dueDialogues(x, 0, 3);
        due("the same registration again", x.deliver(0), 11);
        dueDialogues(x, 0, 3, 4);
    }
}
