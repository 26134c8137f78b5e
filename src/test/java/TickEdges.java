/** The edges of "A TICK", sentence by sentence. */
public final class TickEdges extends Checks {
    public static void main(String[] args) {
        clockGrows();
        deadlines();
        deadlineOfEveryKind();
        orderOfEnding();
        registrationFailed();
        updateAborted();
        queryNotAnswered();
        numbersBecomeFree();
        cancelsInTheirOrder();
        cancelAlreadyOpen();
        whileFewerThanFour();
        cancelOpened();
        abortsBeforeCancels();
        end();
    }

    private static void clockGrows() {
        section("A TICK: the clock grows by 1.");
        RoamingRegisters x = new RoamingRegisters(2);
        for (int n = 1; n <= 512; n++) {
            due("tick", x.tick(), n);
        }
        RoamingRegisters y = new RoamingRegisters(2);
        due("another object's clock", y.tick(), 1);
    }

    private static void deadlines() {
        section("Then all open dialogues whose deadline it is end");
        RoamingRegisters x = registered(2, 1, 0);
        for (int n = 0; n < 4; n++) {
            x.ask(0);
            x.tick();
        }
        due("none is due at 4", x.dialogues(0), 4);
        x.tick();
        dueDialogues(x, 0, 2, 3, 4, 5);
        for (int n = 1; n <= 4; n++) {
            x.tick();
            due("one each tick", x.dialogues(0), 4 - n);
        }
        RoamingRegisters all = registered(2, 1, 0);
        for (int n = 0; n < 4; n++) {
            all.ask(0);
        }
        all.appear(1, 0);
        all.appear(2, 1);
        ticks(all, 5);
        due("four open", all.dialogues(0), 4);
        all.tick();
        dueDialogues(all, 0);
        dueDialogues(all, 1, 2);
        ticks(all, 4);
        dueDialogues(all, 1);
        dueDialogues(all, 2);
    }

    private static void deadlineOfEveryKind() {
        section("An open dialogue has a subscriber, the other node, and a DEADLINE.");
        RoamingRegisters x = registered(2, 1, 0);
        register(x, 2, 0);
        ticks(x, 1);
        dueDialogues(x, 0, 3);
        x.ask(0);
        x.appear(1, 1);
        x.deliver(2);
        dueDialogues(x, 0, 3, 4, 5);
        ticks(x, 3);
        dueDialogues(x, 0, 3, 4, 5);
        due("CANCEL ends at 1 and 4, and the next is opened", x.tick(), 5);
        dueDialogues(x, 0, 4, 5, 6);
        x.tick();
        dueDialogues(x, 0, 4, 5, 6);
        due("QUERY and UPDATE end at 1 and 6", x.tick(), 7);
        dueDialogues(x, 0, 6);
        ticks(x, 3);
        dueDialogues(x, 1, 2);
        due("the registration ends at 1 and 10", x.tick(), 11);
        dueDialogues(x, 1);
    }

    private static void orderOfEnding() {
        section("by ascending nodes, at a node by ascending numbers");
        RoamingRegisters x = reachable(4);
        int[][] ways = {{4, 3}, {3, 2}, {2, 1}, {1, 0}};
        for (int[] way : ways) {
            x.appear(way[0], way[1]);
        }
        for (int n = 0; n < 4; n++) {
            x.deliver(0);
        }
        fillNetwork(x, 22);
        ticks(x, 6);
        dueDialogues(x, 0);
        due("flying", x.flying(), 24);
        dueDatagram(x, 22, 0, 4, 4, 0, 0, 1, 1, 0);
        dueDatagram(x, 23, 0, 3, 4, 0, 0, 2, 1, 0);
    }

    private static void registrationFailed() {
        section("a registration FAILED;");
        RoamingRegisters x = reachable(2);
        x.appear(1, 0);
        x.tick();
        x.appear(1, 1);
        ticks(x, 8);
        due("open at 9", x.registration(1, 0), 1);
        x.tick();
        due("FAILED at 10", x.registration(1, 0), 3);
        due("the other is open", x.registration(1, 1), 1);
        due("nothing is sent for it", x.flying(), 2);
        dueDialogues(x, 1, 2);
        x.tick();
        due("FAILED at 11", x.registration(1, 1), 3);
        dueDialogues(x, 1);
    }

    private static void updateAborted() {
        section("of an UPDATE, ABORT from it to the registration that it answers is sent;");
        RoamingRegisters x = registered(2, 2, 1);
        x.appear(2, 3);
        x.deliver(0);
        ticks(x, 5);
        due("flying", x.flying(), 1);
        x.tick();
        dueDialogues(x, 0);
        dueDatagram(x, 1, 0, 2, 4, 0, 0, 2, 2, 0);
        due("the location stays", x.location(3), 2);
        due("the registration is open until it arrives", x.registration(2, 3), 1);
        x.deliver(1);
        due("FAILED", x.registration(2, 3), 3);
        due("its INSERT is refused now", x.deliver(0), 22);
        dueDatagram(x, 0, 2, 0, 4, 0, 0, 0, 2, 0);
        x.deliver(0);
        dueDialogues(x, 0);
    }

    private static void queryNotAnswered() {
        section("a query's answer is -3.");
        RoamingRegisters x = registered(2, 1, 0);
        ticks(x, 2);
        x.ask(0);
        x.deliver(0);
        ticks(x, 5);
        due("open at 7", x.answer(2), OPEN);
        x.tick();
        due("-3 at 8", x.answer(2), -3);
        due("nothing is sent for it", x.flying(), 1);
        due("its number stays allotted", x.call(100), 0);
    }

    private static void numbersBecomeFree() {
        section("Then all numbers that are allotted until now become free.");
        RoamingRegisters x = registered(2, 1, 0);
        register(x, 2, 1);
        x.ask(0);
        x.ask(1);
        x.ask(0);
        deliverAll(x);
        x.tick();
        x.ask(1);
        deliverAll(x);
        due("the second of node 2", x.answer(6), 201);
        ticks(x, 6);
        x.ask(0);
        deliverAll(x);
        due("none free at 7", x.answer(7), -2);
        x.tick();
        due("free at 8", x.call(100), -1);
        due("free at 8", x.call(101), -1);
        due("free at 8", x.call(200), -1);
        x.tick();
        due("free at 9", x.call(201), -1);
        calledAndAllottedAnew();
        freeInTheTickThatEndsAQuery();
    }

    private static void calledAndAllottedAnew() {
        RoamingRegisters x = registered(2, 1, 0);
        x.ask(0);
        deliverAll(x);
        ticks(x, 5);
        due("called at 5", x.call(100), 0);
        x.ask(0);
        deliverAll(x);
        due("allotted anew", x.answer(3), 100);
        ticks(x, 3);
        due("the old time is no more", x.answer(3), 100);
        x.ask(0);
        deliverAll(x);
        due("still allotted at 8", x.answer(4), 101);
        ticks(x, 4);
        due("at 12", x.call(101), 0);
        x.tick();
        due("free at 13", x.call(100), -1);
    }

    private static void freeInTheTickThatEndsAQuery() {
        RoamingRegisters x = registered(2, 1, 0);
        x.ask(0);
        deliverAll(x);
        ticks(x, 2);
        x.ask(0);
        ticks(x, 6);
        due("the query ends", x.answer(3), -3);
        due("and the number is free", x.call(100), -1);
    }

    private static void cancelsInTheirOrder() {
        section("Then for each cancellation, in their order,");
        RoamingRegisters none = registered(2, 1, 0);
        none.tick();
        due("no cancellation, nothing is sent", none.flying(), 0);
        RoamingRegisters x = reachable(3);
        register(x, 3, 2);
        register(x, 1, 1);
        register(x, 2, 2);
        register(x, 3, 1);
        register(x, 1, 2);
        dueCancellations(x, 14, 5, 10);
        due("not before a tick", x.flying(), 0);
        x.tick();
        dueDialogues(x, 0, 6, 7, 8);
        dueDatagram(x, 0, 0, 3, 1, 3, 2, 6, 0, 0);
        dueDatagram(x, 1, 0, 1, 1, 3, 1, 7, 0, 0);
        dueDatagram(x, 2, 0, 2, 1, 3, 2, 8, 0, 0);
        dueCancellations(x, 14, 5, 10);
    }

    private static void cancelAlreadyOpen() {
        section("with whose node and subscriber no CANCEL is open,");
        RoamingRegisters x = registered(3, 1, 0);
        register(x, 2, 0);
        x.tick();
        dueDialogues(x, 0, 3);
        loseAll(x);
        register(x, 2, 1);
        register(x, 1, 1);
        x.tick();
        dueDialogues(x, 0, 3, 6);
        dueDatagram(x, 0, 0, 2, 1, 3, 1, 6, 0, 0);
        ticks(x, 2);
        dueDialogues(x, 0, 3, 6);
        x.tick();
        dueDialogues(x, 0, 6, 7);
        due("the one that ended is opened anew in the same tick", x.datagram(x.flying() - 1, 5), 7);
        dueDatagram(x, x.flying() - 1, 0, 1, 1, 3, 0, 7, 0, 0);
        otherKindsWithTheSame();
    }

    private static void otherKindsWithTheSame() {
        RoamingRegisters query = registered(2, 1, 0);
        query.ask(0);
        query.lose(0);
        register(query, 2, 0);
        dueCancellations(query, 4);
        query.tick();
        dueDialogues(query, 0, 2, 4);
        dueDatagram(query, 0, 0, 1, 1, 3, 0, 4, 0, 0);
        RoamingRegisters update = reachable(2);
        update.appear(1, 0);
        update.appear(2, 0);
        update.deliver(0);
        update.deliver(0);
        loseAll(update);
        dueCancellations(update, 4);
        update.tick();
        dueDialogues(update, 0, 1, 2, 3);
        dueDatagram(update, 0, 0, 1, 1, 3, 0, 3, 0, 0);
    }

    private static void whileFewerThanFour() {
        section("while fewer than four dialogues are open at the home:");
        for (int queries = 0; queries <= 4; queries++) {
            RoamingRegisters x = sixCancellations();
            for (int n = 0; n < queries; n++) {
                x.ask(0);
            }
            loseAll(x);
            x.tick();
            due("dialogues", x.dialogues(0), 4);
            due("BEGIN CANCELs with " + queries + " queries open", x.flying(), 4 - queries);
        }
        RoamingRegisters x = sixCancellations();
        for (int n = 0; n < 4; n++) {
            x.ask(0);
        }
        loseAll(x);
        ticks(x, 5);
        due("none while four are open", x.flying(), 0);
        x.tick();
        dueDialogues(x, 0, 15, 16, 17, 18);
        due("those that end make room in the same tick", x.flying(), 4);
        openCancelsComeFirst();
    }

    private static void openCancelsComeFirst() {
        RoamingRegisters x = sixCancellations();
        x.tick();
        ticks(x, 3);
        dueDialogues(x, 0, 11, 12, 13, 14);
        loseAll(x);
        x.tick();
        dueDialogues(x, 0, 15, 16, 17, 18);
        int[] subscribers = {0, 1, 0, 1};
        for (int n = 0; n < 4; n++) {
            dueDatagram(x, n, 0, 1 + n / 2, 1, 3, subscribers[n], 15 + n, 0, 0);
        }
        x.deliver(0);
        x.deliver(3);
        dueCancellations(x, 5, 8, 9, 14, 15);
        x.tick();
        dueDialogues(x, 0, 16, 17, 18, 19);
        dueDatagram(x, 3, 0, 3, 1, 3, 2, 19, 0, 0);
    }

    private static void cancelOpened() {
        section("a CANCEL is opened with the node about the subscriber, its deadline the clock and 4, and BEGIN CANCEL from it is sent.");
        RoamingRegisters x = registered(4, 4, 3);
        register(x, 1, 3);
        ticks(x, 1);
        dueDatagram(x, 0, 0, 4, 1, 3, 3, 3, 0, 0);
        ticks(x, 3);
        dueDialogues(x, 0, 3);
        due("flying", x.flying(), 1);
        due("tick", x.tick(), 5);
        dueDialogues(x, 0, 4);
        dueDatagram(x, 1, 0, 4, 1, 3, 3, 4, 0, 0);
        dueCancellations(x, 19);
        x.deliver(0);
        x.deliver(1);
        dueCancellations(x, 19);
        x.deliver(0);
        x.deliver(0);
        dueCancellations(x);
        dueDialogues(x, 0);
        ticks(x, 5);
        due("none is left to be sent", x.flying(), 0);
    }

    private static void abortsBeforeCancels() {
        section("Then all open dialogues whose deadline it is end [..] Then for each cancellation");
        for (int room = 4; room >= 1; room--) {
            RoamingRegisters x = reachable(4);
            register(x, 1, 0);
            register(x, 2, 0);
            register(x, 1, 1);
            register(x, 2, 1);
            for (int s = 0; s < 4; s++) {
                x.appear(3 + s / 2, s % 2 == 0 ? 2 : 3);
            }
            for (int n = 0; n < 4; n++) {
                x.deliver(0);
            }
            dueDialogues(x, 0, 5, 6, 7, 8);
            dueCancellations(x, 4, 5, 14, 15);
            fillNetwork(x, 24 - room);
            ticks(x, 5);
            due("no room for a dialogue before", x.flying(), 24 - room);
            x.tick();
            dueDialogues(x, 0, 9, 10, 11, 12);
            due("flying", x.flying(), 24);
            for (int n = 0; n < room; n++) {
                dueDatagram(x, 24 - room + n, 0, 3 + n / 2, 4, 0, 0, 5 + n, 1 + n % 2, 0);
            }
        }
    }
}
