/** The edges that the promises 1 to 19 name, sentence by sentence. */
public final class PromiseEdges extends Checks {
    private static final int[] NO_SUBSCRIBERS = {-1, 4, 5, -4, 8, MIN, MAX};

    public static void main(String[] args) {
        soManyVisited();
        digitsKept();
        digitsRefused();
        titleTold();
        titleRefused();
        appearOpens();
        appearBad();
        appearBusy();
        appearLost();
        askOpens();
        askBad();
        askLost();
        askBusy();
        answers();
        answerBad();
        answerAfterTwenty();
        delivers();
        deliverBad();
        loses();
        loseRefused();
        copies();
        copyRefused();
        flying();
        datagramParts();
        datagramBad();
        tick();
        holds();
        holdsOfNone();
        location();
        registration();
        registrationBad();
        dialogues();
        dialogue();
        cancellation();
        callAllotted();
        callBad();
        end();
    }

    private static void soManyVisited() {
        section("So many visited registers, 2 if that is less, 4 if it is more.");
        int[][] rows = {{MIN, 2}, {-2, 2}, {-1, 2}, {0, 2}, {1, 2}, {2, 2}, {3, 3}, {4, 4}, {5, 4}, {6, 4}, {MAX, 4}};
        for (int[] row : rows) {
            RoamingRegisters x = reachable(row[0]);
            for (int v = 1; v <= row[1]; v++) {
                due("dialogues(" + v + ") of " + row[0], x.dialogues(v), 0);
                due("appear(" + v + ", 0) of " + row[0], x.appear(v, 0), 1);
                due("registration(" + v + ", 0) of " + row[0], x.registration(v, 0), 1);
            }
            due("dialogues of one more than " + row[0], x.dialogues(row[1] + 1), BAD);
            due("appear at one more than " + row[0], x.appear(row[1] + 1, 0), BAD);
            due("registration at one more than " + row[0], x.registration(row[1] + 1, 0), BAD);
        }
    }

    private static void digitsKept() {
        section("Subscriber s gets digits.");
        RoamingRegisters x = new RoamingRegisters(4);
        x.title(99999, 5, true);
        x.title(0, 5, false);
        for (int s = 0; s < 4; s++) {
            due("digits(" + s + ", 99999)", x.digits(s, 99999), true);
            due("this one is reached", x.appear(s + 1, s), 1);
            for (int other = s + 1; other < 4; other++) {
                due("the others are not", x.appear(s + 1, other), LOST);
            }
        }
        due("digits(3, 0)", x.digits(3, 0), true);
        due("the latest digits count", x.appear(1, 3), LOST);
        due("the registration goes on", x.registration(4, 3), 1);
    }

    private static void digitsRefused() {
        section("False when there is no such subscriber, or digits is not 0 .. 99999.");
        RoamingRegisters x = new RoamingRegisters(2);
        for (int s : NO_SUBSCRIBERS) {
            due("digits(" + s + ", 0)", x.digits(s, 0), false);
        }
        for (int s = 0; s < 4; s++) {
            due("digits(" + s + ", 0)", x.digits(s, 0), true);
            due("digits(" + s + ", 99999)", x.digits(s, 99999), true);
            int[] outside = {-1, 100000, 100001, -99999, MIN, MAX};
            for (int digits : outside) {
                due("digits(" + s + ", " + digits + ")", x.digits(s, digits), false);
            }
        }
        x.title(99999, 5, true);
        due("99999 is kept", x.appear(1, 0), 1);
        due("neither is right", x.digits(4, 100000), false);
    }

    private static void titleTold() {
        section("becomes YES or NO, whether it was there or not.");
        RoamingRegisters x = new RoamingRegisters(4);
        due("NO, it was not there", x.title(0, 3, false), true);
        due("NO", x.appear(1, 0), LOST);
        due("YES, it was there", x.title(0, 3, true), true);
        due("YES", x.appear(1, 0), 1);
        due("YES again", x.title(0, 3, true), true);
        due("YES still", x.appear(2, 0), 1);
        due("NO, it was there", x.title(0, 3, false), true);
        due("NO again", x.appear(3, 0), LOST);
        due("YES, it was not there", x.title(0, 4, true), true);
        due("YES of more digits", x.appear(3, 0), 1);
        due("with zeros in front; 0 for none", x.title(0, 0, true), true);
        x.digits(1, 1);
        x.title(1, 5, false);
        due("00001", x.appear(1, 1), LOST);
        x.digits(1, 10000);
        due("10000", x.appear(1, 1), 2);
    }

    private static void titleRefused() {
        section("False when count is not 0 .. 5, first is not 0 or more and less than ten to the count,"
            + " or it is not there and there are six.");
        RoamingRegisters x = new RoamingRegisters(2);
        int[] counts = {-1, 6, 7, -5, MIN, MAX};
        for (int count : counts) {
            due("title(0, " + count + ")", x.title(0, count, true), false);
        }
        int[] powers = {1, 10, 100, 1000, 10000, 100000};
        for (int count = 0; count <= 5; count++) {
            int[] firsts = {-1, powers[count], powers[count] + 1, MIN, MAX};
            for (int first : firsts) {
                due("title(" + first + ", " + count + ")", x.title(first, count, true), false);
            }
        }
        due("none came in", x.appear(1, 0), LOST);
        for (int count = 0; count <= 5; count++) {
            due("the greatest of " + count, x.title(powers[count] - 1, count, false), true);
        }
        for (int count = 1; count <= 5; count++) {
            due("a seventh", x.title(0, count, true), false);
        }
        for (int count = 0; count <= 5; count++) {
            due("one that is there", x.title(powers[count] - 1, count, true), true);
        }
        due("still six", x.title(0, 5, true), false);
    }

    private static void appearOpens() {
        section("a registration is opened, with the home, its deadline the clock and 10, and BEGIN UPDATE from it is sent. Answers its number.");
        RoamingRegisters x = reachable(4);
        ticks(x, 5);
        due("the first", x.appear(4, 3), 1);
        dueDatagram(x, 0, 4, 0, 1, 1, 3, 1, 0, 0);
        due("the second", x.appear(4, 0), 2);
        dueDatagram(x, 1, 4, 0, 1, 1, 0, 2, 0, 0);
        due("open", x.registration(4, 3), 1);
        ticks(x, 9);
        dueDialogues(x, 4, 1, 2);
        due("tick", x.tick(), 15);
        dueDialogues(x, 4);
        due("the third", x.appear(4, 3), 3);
    }

    private static void appearBad() {
        section("BAD when there is no such node or subscriber;");
        for (int visited = 2; visited <= 4; visited++) {
            RoamingRegisters x = reachable(visited);
            int[] none = {0, -1, visited + 1, 5, MIN, MAX};
            for (int v : none) {
                due("appear(" + v + ", 0)", x.appear(v, 0), BAD);
                due("appear(" + v + ", 4)", x.appear(v, 4), BAD);
            }
            for (int s : NO_SUBSCRIBERS) {
                due("appear(1, " + s + ")", x.appear(1, s), BAD);
            }
            due("flying", x.flying(), 0);
            due("appear(last, 3)", x.appear(visited, 3), 1);
        }
    }

    private static void appearBusy() {
        section("then BUSY when the node has two dialogues open or a registration of s open;");
        RoamingRegisters x = reachable(2);
        x.appear(1, 0);
        due("a registration of s is open", x.appear(1, 0), BUSY);
        due("of s at another node", x.appear(2, 0), 1);
        due("another one's", x.appear(1, 1), 2);
        due("two are open", x.appear(1, 2), BUSY);
        due("two are open, one of s", x.appear(1, 1), BUSY);
        due("BAD comes first", x.appear(1, 4), BAD);
        due("flying", x.flying(), 3);
        due("never was one", x.registration(1, 2), 0);
        deliverAll(x);
        due("none is open", x.appear(1, 0), 3);
    }

    private static void appearLost() {
        section("then LOST when the subscriber's title is not reached.");
        RoamingRegisters x = reachable(2);
        x.appear(1, 0);
        x.title(0, 0, false);
        due("BUSY comes first", x.appear(1, 0), BUSY);
        due("BAD comes first", x.appear(3, 1), BAD);
        due("LOST", x.appear(1, 1), LOST);
        due("nothing is opened", x.dialogues(1), 1);
        x.title(0, 0, true);
        x.appear(1, 2);
        x.title(0, 0, false);
        due("BUSY comes first, two are open", x.appear(1, 1), BUSY);
        due("what is under way goes on", x.deliver(0), 11);
        due("location", x.location(0), 1);
    }

    private static void askOpens() {
        section("a QUERY is opened at the home, with its location, its deadline the clock and 6, and BEGIN PROVIDE from it is sent.");
        RoamingRegisters x = registered(4, 4, 2);
        register(x, 1, 2);
        ticks(x, 1);
        loseAll(x);
        due("ask(2)", x.ask(2), 4);
        dueDatagram(x, 0, 0, 1, 1, 4, 2, 4, 0, 0);
        ticks(x, 5);
        due("open at 6", x.answer(4), OPEN);
        due("tick", x.tick(), 7);
        due("-3 at 7", x.answer(4), -3);
    }

    private static void askBad() {
        section("BAD when there is no such subscriber;");
        RoamingRegisters x = registered(2, 1, 3);
        for (int s : NO_SUBSCRIBERS) {
            due("ask(" + s + ")", x.ask(s), BAD);
        }
        due("ask(3)", x.ask(3), 2);
        x.ask(3);
        x.ask(3);
        x.ask(3);
        due("before BUSY", x.ask(4), BAD);
    }

    private static void askLost() {
        section("then LOST when it has no location;");
        RoamingRegisters x = reachable(2);
        x.appear(1, 3);
        due("not before BEGIN UPDATE arrives", x.ask(3), LOST);
        x.deliver(0);
        due("from then on", x.ask(3), 2);
        x.ask(3);
        x.ask(3);
        for (int s = 0; s < 3; s++) {
            due("before BUSY", x.ask(s), LOST);
        }
        due("four are open", x.ask(3), BUSY);
    }

    private static void askBusy() {
        section("then BUSY when four dialogues are open at the home.");
        RoamingRegisters x = registered(2, 1, 0);
        for (int n = 0; n < 4; n++) {
            due("ask(0)", x.ask(0), 2 + n);
        }
        due("the fifth", x.ask(0), BUSY);
        x.deliver(0);
        x.deliver(3);
        due("one has ended", x.ask(0), 6);
        due("four again", x.ask(0), BUSY);
        RoamingRegisters c = sixCancellations();
        c.tick();
        due("four CANCELs", c.ask(0), BUSY);
        c.deliver(0);
        c.deliver(3);
        due("three CANCELs", c.ask(0), 15);
    }

    private static void answers() {
        section("a roaming number, -1, -2 or -3, as told; OPEN when it is still open.");
        RoamingRegisters x = registered(2, 2, 0);
        x.ask(0);
        due("before it arrives", x.answer(2), OPEN);
        x.deliver(0);
        due("before END PROVIDE arrives", x.answer(2), OPEN);
        x.deliver(0);
        due("a roaming number", x.answer(2), 200);
        due("asked again", x.answer(2), 200);
        x.call(200);
        due("it stays when the number is called", x.answer(2), 200);
        ticks(x, 9);
        due("and when the time is over", x.answer(2), 200);
        x.ask(0);
        x.lose(0);
        ticks(x, 6);
        due("-3", x.answer(3), -3);
        x.ask(0);
        x.ask(0);
        x.ask(0);
        deliverAll(x);
        due("-2", x.answer(6), -2);
        x.appear(2, 1);
        x.deliver(0);
        x.lose(0);
        x.ask(1);
        deliverAll(x);
        due("-1", x.answer(8), -1);
    }

    private static void answerBad() {
        section("BAD when no query has this number,");
        RoamingRegisters x = registered(2, 1, 0);
        register(x, 2, 0);
        x.tick();
        x.ask(0);
        int[] none = {0, 1, 2, 3, 5, -1, -4, MIN, MAX};
        for (int query : none) {
            due("answer(" + query + ")", x.answer(query), BAD);
        }
        due("the query", x.answer(4), OPEN);
        due("a new object", new RoamingRegisters(2).answer(0), BAD);
        due("a new object", new RoamingRegisters(2).answer(1), BAD);
    }

    /** The numbers wrap around: 45 queries, more than twice the 20 that are kept, each with its own answer. */
    private static void answerAfterTwenty() {
        section("or 20 queries were opened after it.");
        RoamingRegisters x = registered(2, 1, 0);
        int[] due = new int[47];
        for (int query = 2; query <= 46; query++) {
            due("ask", x.ask(0), query);
            x.deliver(0);
            if (query % 3 == 0) {
                x.call(100);
            }
            due[query] = x.datagram(0, 7);
            x.deliver(0);
            if (query > 20) {
                due("19 were opened after it", x.answer(query - 19), due[query - 19]);
                due("20 were opened after it", x.answer(query - 20), BAD);
            }
        }
        for (int query = 27; query <= 46; query++) {
            due("the last 20", x.answer(query), due[query]);
        }
        due("the one before", x.answer(26), BAD);
        openedNotAnswered();
        otherDialoguesAreNoQueries();
    }

    private static void openedNotAnswered() {
        RoamingRegisters x = registered(2, 1, 0);
        x.ask(0);
        for (int n = 0; n < 19; n++) {
            x.ask(0);
            x.deliver(1);
            x.deliver(1);
        }
        due("open, 19 after it", x.answer(2), OPEN);
        due("the twentieth", x.ask(0), 22);
        due("open, 20 after it", x.answer(2), BAD);
        x.deliver(0);
        x.deliver(1);
        due("answered, 20 after it", x.answer(2), BAD);
        due("the twentieth is open yet", x.answer(22), OPEN);
        due("it has ended all the same", x.dialogues(0), 1);
    }

    private static void otherDialoguesAreNoQueries() {
        RoamingRegisters x = registered(2, 1, 0);
        x.ask(0);
        deliverAll(x);
        for (int n = 0; n < 25; n++) {
            register(x, 2, 1);
        }
        due("25 UPDATEs are no queries", x.answer(2), 100);
    }

    private static void delivers() {
        section("Datagram i (0 the earliest) in flight arrives: 10 * its form + its operation.");
        RoamingRegisters x = registered(2, 1, 3);
        x.appear(2, 3);
        int[] codes = {11, 22, 22, 31};
        for (int code : codes) {
            due("UPDATE", x.deliver(0), code);
        }
        x.tick();
        due("BEGIN CANCEL", x.deliver(0), 13);
        due("END CANCEL", x.deliver(0), 33);
        x.ask(3);
        due("BEGIN PROVIDE", x.deliver(0), 14);
        due("END PROVIDE", x.deliver(0), 34);
        x.appear(1, 0);
        x.deliver(0);
        ticks(x, 6);
        due("ABORT, the later one first", x.deliver(1), 40);
        due("the earliest", x.deliver(0), 22);
        due("ABORT at the home", x.deliver(0), 40);
        due("none is left", x.deliver(0), BAD);
    }

    private static void deliverBad() {
        section("deliver: BAD when there is none.");
        RoamingRegisters x = reachable(2);
        int[] none = {0, 1, -1, 23, 24, MIN, MAX};
        for (int i : none) {
            due("nothing in flight", x.deliver(i), BAD);
        }
        x.appear(1, 0);
        for (int n = 1; n <= 24; n++) {
            due("behind the last", x.deliver(n), BAD);
            due("before the first", x.deliver(-1), BAD);
            due("flying", x.flying(), n);
            x.copy(0);
        }
        due("the last of 24", x.deliver(23), 11);
    }

    private static void loses() {
        section("Datagram i in flight is lost.");
        RoamingRegisters x = reachable(4);
        for (int v = 1; v <= 4; v++) {
            x.appear(v, v - 1);
        }
        due("the middle", x.lose(1), true);
        due("1", x.datagram(0, 0), 1);
        due("3", x.datagram(1, 0), 3);
        due("4", x.datagram(2, 0), 4);
        due("the last", x.lose(2), true);
        due("the first", x.lose(0), true);
        due("3 is left", x.datagram(0, 0), 3);
        due("the only one", x.lose(0), true);
        due("flying", x.flying(), 0);
        due("nothing arrived", x.location(0) + x.location(1) + x.location(2) + x.location(3), 0);
        due("its dialogue is open", x.registration(1, 0), 1);
    }

    private static void loseRefused() {
        section("lose: False when there is none.");
        RoamingRegisters x = reachable(2);
        int[] none = {0, 1, -1, 23, 24, MIN, MAX};
        for (int i : none) {
            due("nothing in flight", x.lose(i), false);
        }
        x.appear(1, 0);
        fillNetwork(x);
        int[] outside = {-1, 24, 25, MIN, MAX};
        for (int i : outside) {
            due("24 in flight", x.lose(i), false);
        }
        due("flying", x.flying(), 24);
        due("the last of 24", x.lose(23), true);
        due("the last of 23", x.lose(23), false);
        due("flying", x.flying(), 23);
    }

    private static void copies() {
        section("A copy of datagram i in flight is put at the list's end.");
        RoamingRegisters x = registered(2, 1, 3);
        x.ask(3);
        x.deliver(0);
        x.appear(2, 1);
        due("the first", x.copy(0), true);
        due("the second", x.copy(1), true);
        due("a copy of a copy", x.copy(2), true);
        dueDatagram(x, 0, 1, 0, 3, 4, 3, 0, 2, 100);
        dueDatagram(x, 1, 2, 0, 1, 1, 1, 1, 0, 0);
        dueDatagram(x, 2, 1, 0, 3, 4, 3, 0, 2, 100);
        dueDatagram(x, 3, 2, 0, 1, 1, 1, 1, 0, 0);
        dueDatagram(x, 4, 1, 0, 3, 4, 3, 0, 2, 100);
        x.lose(0);
        x.lose(1);
        x.deliver(2);
        due("a copy arrives as the first would", x.answer(2), 100);
        dueDatagram(x, 1, 2, 0, 1, 1, 1, 1, 0, 0);
        due("flying", x.flying(), 2);
    }

    private static void copyRefused() {
        section("copy: False when there is none, or 24 are in flight.");
        RoamingRegisters x = reachable(2);
        int[] none = {0, 1, -1, 23, 24, MIN, MAX};
        for (int i : none) {
            due("nothing in flight", x.copy(i), false);
        }
        x.appear(1, 0);
        for (int n = 1; n < 24; n++) {
            due("behind the last", x.copy(n), false);
            due("before the first", x.copy(-1), false);
            due("the last", x.copy(n - 1), true);
        }
        int[] all = {0, 23, 24, -1};
        for (int i : all) {
            due("24 in flight", x.copy(i), false);
        }
        due("flying", x.flying(), 24);
    }

    private static void flying() {
        section("How many datagrams are in flight.");
        RoamingRegisters x = reachable(2);
        due("none", x.flying(), 0);
        x.appear(1, 0);
        for (int n = 1; n <= 24; n++) {
            due("flying", x.flying(), n);
            x.copy(0);
        }
        x.appear(2, 0);
        due("never more", x.flying(), 24);
        for (int n = 23; n >= 0; n--) {
            x.lose(n);
            due("flying", x.flying(), n);
        }
    }

    private static void datagramParts() {
        section("4 the subscriber (0 with ABORT), 5 the sender's dialogue, 6 the receiver's, 7 the value;");
        RoamingRegisters x = registered(3, 3, 2);
        x.appear(3, 3);
        x.deliver(0);
        x.ask(2);
        x.deliver(1);
        x.appear(3, 1);
        ticks(x, 6);
        dueDatagram(x, 0, 0, 3, 2, 2, 3, 2, 2, 0);
        dueDatagram(x, 1, 3, 0, 3, 4, 2, 0, 3, 300);
        dueDatagram(x, 2, 3, 0, 1, 1, 1, 3, 0, 0);
        dueDatagram(x, 3, 0, 3, 4, 0, 0, 2, 2, 0);
    }

    private static void datagramBad() {
        section("datagram: BAD when there is none, or for any other number.");
        RoamingRegisters x = reachable(2);
        due("nothing in flight", x.datagram(0, 0), BAD);
        due("nothing in flight", x.datagram(-1, 0), BAD);
        x.appear(1, 0);
        int[] outside = {-1, 8, 9, MIN, MAX};
        for (int n : outside) {
            due("what is " + n, x.datagram(0, n), BAD);
            due("i is " + n, x.datagram(n, 0), BAD);
            due("both are " + n, x.datagram(n, n), BAD);
        }
        due("i is 1", x.datagram(1, 0), BAD);
        fillNetwork(x);
        due("the last of 24", x.datagram(23, 2), 1);
        due("i is 24", x.datagram(24, 2), BAD);
        x.lose(0);
        due("the place that was left", x.datagram(23, 2), BAD);
    }

    private static void tick() {
        section("A tick: the clock.");
        RoamingRegisters x = reachable(2);
        due("the first", x.tick(), 1);
        x.appear(1, 0);
        x.deliver(5);
        due("only a tick moves it", x.tick(), 2);
    }

    private static void holds() {
        section("Whether visited node v holds the record of s;");
        RoamingRegisters x = reachable(4);
        int[][] pairs = {{1, 0}, {4, 3}, {2, 1}, {3, 2}};
        for (int[] pair : pairs) {
            x.appear(pair[0], pair[1]);
            x.deliver(0);
            due("not before INSERT arrives", x.holds(pair[0], pair[1]), false);
            x.deliver(0);
            due("from then on", x.holds(pair[0], pair[1]), true);
            deliverAll(x);
        }
        for (int v = 1; v <= 4; v++) {
            for (int s = 0; s < 4; s++) {
                due("holds(" + v + ", " + s + ")", x.holds(v, s), s == v - 1);
            }
        }
    }

    private static void holdsOfNone() {
        section("false when there is no such node or subscriber.");
        RoamingRegisters x = reachable(3);
        int[][] pairs = {{1, 0}, {1, 1}, {1, 2}, {1, 3}, {2, 0}, {2, 1}, {2, 2}, {2, 3}, {3, 0}, {3, 3}};
        for (int[] pair : pairs) {
            register(x, pair[0], pair[1]);
        }
        for (int[] pair : pairs) {
            due("held", x.holds(pair[0], pair[1]), true);
        }
        int[] nodes = {0, -1, 4, 5, MIN, MAX};
        for (int v : nodes) {
            due("holds(" + v + ", 0)", x.holds(v, 0), false);
            due("holds(" + v + ", 4)", x.holds(v, 4), false);
        }
        for (int s : NO_SUBSCRIBERS) {
            due("holds(2, " + s + ")", x.holds(2, s), false);
        }
    }

    private static void location() {
        section("0 for none; BAD when there is no such subscriber.");
        RoamingRegisters x = registered(4, 4, 0);
        register(x, 1, 3);
        due("location(0)", x.location(0), 4);
        due("location(1)", x.location(1), 0);
        due("location(2)", x.location(2), 0);
        due("location(3)", x.location(3), 1);
        for (int s : NO_SUBSCRIBERS) {
            due("location(" + s + ")", x.location(s), BAD);
        }
    }

    private static void registration() {
        section("0 there was none, 1 open, 2 DONE, 3 FAILED;");
        RoamingRegisters x = reachable(2);
        due("there was none", x.registration(2, 3), 0);
        x.appear(2, 3);
        due("open", x.registration(2, 3), 1);
        ticks(x, 10);
        due("FAILED", x.registration(2, 3), 3);
        loseAll(x);
        x.appear(2, 3);
        due("the latest is open", x.registration(2, 3), 1);
        deliverAll(x);
        due("the latest is DONE", x.registration(2, 3), 2);
        x.title(0, 0, false);
        x.appear(2, 3);
        due("a refused one is none", x.registration(2, 3), 2);
        due("of another subscriber", x.registration(2, 2), 0);
        due("at another node", x.registration(1, 3), 0);
    }

    private static void registrationBad() {
        section("registration: BAD when there is no such node or subscriber.");
        RoamingRegisters x = reachable(3);
        for (int v = 1; v <= 3; v++) {
            register(x, v, 0);
            register(x, v, 3);
        }
        int[] nodes = {0, -1, 4, 5, MIN, MAX};
        for (int v : nodes) {
            due("registration(" + v + ", 0)", x.registration(v, 0), BAD);
            due("registration(" + v + ", 4)", x.registration(v, 4), BAD);
        }
        for (int s : NO_SUBSCRIBERS) {
            due("registration(2, " + s + ")", x.registration(2, s), BAD);
        }
    }

    private static void dialogues() {
        section("How many dialogues are open at a node; BAD when there is no such node.");
        for (int visited = 2; visited <= 4; visited++) {
            RoamingRegisters x = reachable(visited);
            for (int node = 0; node <= visited; node++) {
                due("none", x.dialogues(node), 0);
            }
            int[] none = {-1, visited + 1, 5, MIN, MAX};
            for (int node : none) {
                due("dialogues(" + node + ")", x.dialogues(node), BAD);
            }
            x.appear(visited, 0);
            due("one", x.dialogues(visited), 1);
            x.appear(visited, 1);
            due("two", x.dialogues(visited), 2);
            due("none at the home", x.dialogues(0), 0);
            x.deliver(0);
            due("one at the home", x.dialogues(0), 1);
        }
    }

    private static void dialogue() {
        section("The number of the k-th open dialogue (from 0, by ascending numbers) of a node; BAD when there is no such node or dialogue.");
        RoamingRegisters x = registered(3, 1, 0);
        due("none is open", x.dialogue(0, 0), BAD);
        due("none is open", x.dialogue(1, 0), BAD);
        for (int n = 0; n < 4; n++) {
            x.ask(0);
        }
        for (int k = 0; k < 4; k++) {
            due("dialogue(0, " + k + ")", x.dialogue(0, k), 2 + k);
        }
        int[] outside = {-1, 4, 5, MIN, MAX};
        for (int n : outside) {
            due("dialogue(0, " + n + ")", x.dialogue(0, n), BAD);
            due("dialogue(" + n + ", 0)", x.dialogue(n, 0), BAD);
            due("dialogue(" + n + ", " + n + ")", x.dialogue(n, n), BAD);
        }
        x.deliver(0);
        x.deliver(3);
        dueDialogues(x, 0, 3, 4, 5);
        x.ask(0);
        dueDialogues(x, 0, 3, 4, 5, 6);
        x.appear(3, 1);
        x.appear(3, 2);
        dueDialogues(x, 3, 1, 2);
        dueDialogues(x, 2);
    }

    private static void cancellation() {
        section("4 * its node + its subscriber; -1 when there are not so many, or k is below 0.");
        RoamingRegisters x = registered(4, 4, 3);
        due("none yet", x.cancellation(0), -1);
        register(x, 1, 3);
        due("the greatest", x.cancellation(0), 19);
        register(x, 1, 0);
        register(x, 2, 0);
        due("the least", x.cancellation(1), 4);
        int[] none = {-1, 2, 3, 5, 6, 7, MIN, MAX};
        for (int k : none) {
            due("cancellation(" + k + ")", x.cancellation(k), -1);
        }
        RoamingRegisters six = sixCancellations();
        due("the sixth", six.cancellation(5), 15);
        due("k is 6", six.cancellation(6), -1);
        due("k is -1", six.cancellation(-1), -1);
        six.tick();
        six.deliver(0);
        six.deliver(3);
        due("the place that was left", six.cancellation(5), -1);
    }

    private static void callAllotted() {
        section("if it is allotted, it is free from now on, and the subscriber is the answer; -1 if it is free;");
        RoamingRegisters x = registered(2, 1, 0);
        register(x, 1, 3);
        due("free at first", x.call(100), -1);
        x.ask(0);
        x.deliver(0);
        due("allotted before the answer arrives", x.call(100), 0);
        due("free from now on", x.call(100), -1);
        deliverAll(x);
        due("the answer stays", x.answer(3), 100);
        x.ask(3);
        x.ask(0);
        deliverAll(x);
        due("the second", x.call(101), 0);
        due("the first", x.call(100), 3);
        due("free", x.call(101), -1);
        due("of another node", x.call(200), -1);
    }

    private static void callBad() {
        section("call: BAD when there is no such number.");
        for (int visited = 2; visited <= 4; visited++) {
            RoamingRegisters x = new RoamingRegisters(visited);
            int last = 100 * visited;
            int[] none = {-1, 0, 1, 2, 99, 102, 103, 110, 199, last + 2, last + 99, last + 100, last + 101, 500, 501,
                10000, -99, -100, -101, -200, -201, MIN, MIN + 1, MAX};
            for (int number : none) {
                due("call(" + number + ")", x.call(number), BAD);
            }
            due("the least", x.call(100), -1);
            due("the greatest", x.call(last + 1), -1);
        }
    }
}
