/** The edges that the document's "Terms" name of nodes, titles, dialogues and datagrams, sentence by sentence. */
public final class TermsEdges extends Checks {
    public static void main(String[] args) {
        nodes();
        subscribers();
        fiveDigits();
        locationsAndCancellations();
        noTwoCancellationsAlike();
        roamingNumbers();
        clock();
        sixTitles();
        noTwoTitlesOfTheSameDigits();
        titleOfMostDigits();
        reached();
        dialogueNumbers();
        dialoguesOpenAtOnce();
        updateKnowsItsRegistration();
        latestAtTheEnd();
        lostIf24();
        zeroForNone();
        operationOfAbort();
        end();
    }

    private static void nodes() {
        section("NODES: 0 is the HOME, 1 to 4 are VISITED registers, as many as there are.");
        for (int visited = 2; visited <= 4; visited++) {
            RoamingRegisters x = reachable(visited);
            due("dialogues(-1)", x.dialogues(-1), BAD);
            due("dialogues(0), the home", x.dialogues(0), 0);
            due("appear at the home", x.appear(0, 0), BAD);
            for (int v = 1; v <= visited; v++) {
                due("appear at " + v, x.appear(v, 0), 1);
                due("dialogues(" + v + ")", x.dialogues(v), 1);
            }
            due("appear behind the last", x.appear(visited + 1, 0), BAD);
            due("dialogues behind the last", x.dialogues(visited + 1), BAD);
        }
    }

    private static void subscribers() {
        section("SUBSCRIBERS are 0 .. 3");
        RoamingRegisters x = reachable(4);
        for (int s = 0; s <= 3; s++) {
            due("digits(" + s + ", 1)", x.digits(s, 1), true);
            due("location(" + s + ")", x.location(s), 0);
            due("ask(" + s + ")", x.ask(s), LOST);
            due("appear(" + (s + 1) + ", " + s + ")", x.appear(s + 1, s), 1);
        }
        int[] none = {-1, 4, 5, -4, MIN, MAX};
        for (int s : none) {
            due("digits(" + s + ", 1)", x.digits(s, 1), false);
            due("location(" + s + ")", x.location(s), BAD);
            due("ask(" + s + ")", x.ask(s), BAD);
            due("appear(2, " + s + ")", x.appear(2, s), BAD);
            due("registration(2, " + s + ")", x.registration(2, s), BAD);
            due("holds(2, " + s + ")", x.holds(2, s), false);
        }
    }

    private static void fiveDigits() {
        section("each has five DIGITS (a number 0 .. 99999, with zeros in front; 0 at first).");
        RoamingRegisters x = new RoamingRegisters(4);
        x.title(0, 5, true);
        for (int s = 0; s <= 3; s++) {
            due("00000 at first", x.appear(s + 1, s), 1);
        }
        x.title(7, 5, true);
        x.title(1, 1, true);
        x.digits(0, 7);
        due("00007 has zeros in front", x.appear(2, 0), 2);
        x.digits(0, 70000);
        due("70000 is another", x.appear(3, 0), LOST);
        x.digits(0, 10000);
        due("10000 begins with 1", x.appear(3, 0), 2);
        x.digits(0, 1);
        due("00001 does not", x.appear(4, 0), LOST);
    }

    private static void locationsAndCancellations() {
        section("The home knows for each subscriber a LOCATION, a visited node or none (at first),"
            + " and has a list of at most six CANCELLATIONS");
        RoamingRegisters x = new RoamingRegisters(4);
        for (int s = 0; s <= 3; s++) {
            due("none at first", x.location(s), 0);
        }
        due("no cancellation at first", x.cancellation(0), -1);
        RoamingRegisters five = moved(9);
        dueCancellations(five, 4, 5, 8, 9, 14);
        register(five, 4, 3);
        dueCancellations(five, 4, 5, 8, 9, 14, 15);
        register(five, 4, 0);
        due("no seventh", five.cancellation(6), -1);
        dueCancellations(five, 4, 5, 8, 9, 14, 15);
        due("so it stays where it was", five.location(0), 3);
    }

    private static void noTwoCancellationsAlike() {
        section("each a visited node and a subscriber, no two alike.");
        RoamingRegisters x = registered(2, 1, 0);
        for (int n = 0; n < 4; n++) {
            register(x, 2, 0);
            dueCancellations(x, 4);
            register(x, 1, 0);
            dueCancellations(x, 8);
        }
    }

    private static void roamingNumbers() {
        section("A visited node HOLDS the records of some subscribers (none at first),"
            + " and has two roaming NUMBERS, 100 * node and 100 * node + 1,");
        for (int visited = 2; visited <= 4; visited++) {
            RoamingRegisters x = new RoamingRegisters(visited);
            for (int v = 1; v <= visited; v++) {
                due("held at first", x.holds(v, 0) || x.holds(v, 1) || x.holds(v, 2) || x.holds(v, 3), false);
                due("one below", x.call(100 * v - 1), BAD);
                due("the first", x.call(100 * v), -1);
                due("the second", x.call(100 * v + 1), -1);
                due("one above", x.call(100 * v + 2), BAD);
            }
            due("the home has none", x.call(0), BAD);
            due("nor a second one", x.call(1), BAD);
            due("nor a node that is not there", x.call(100 * visited + 100), BAD);
            due("nor its second", x.call(100 * visited + 101), BAD);
        }
    }

    private static void clock() {
        section("The CLOCK is 0 at first.");
        due("the first tick", new RoamingRegisters(2).tick(), 1);
        RoamingRegisters x = reachable(2);
        x.appear(1, 0);
        ticks(x, 9);
        due("a deadline at 10 is not there at 9", x.registration(1, 0), 1);
        due("tick", x.tick(), 10);
        due("and is there at 10", x.registration(1, 0), 3);
    }

    private static void sixTitles() {
        section("TITLES: at most six, each some first digits (0 to 5 of them) with YES or NO");
        RoamingRegisters x = new RoamingRegisters(2);
        int[] powers = {1, 10, 100, 1000, 10000, 100000};
        for (int count = 0; count <= 5; count++) {
            due("title of " + count + " digits", x.title(0, count, count == 5), true);
        }
        for (int count = 1; count <= 5; count++) {
            due("a seventh of " + count, x.title(powers[count] - 1, count, true), false);
        }
        due("YES", x.appear(1, 0), 1);
        x.digits(1, 99999);
        due("NO, and no seventh came in", x.appear(1, 1), LOST);
    }

    private static void noTwoTitlesOfTheSameDigits() {
        section("no two of the same digits.");
        RoamingRegisters x = new RoamingRegisters(2);
        for (int n = 0; n < 8; n++) {
            due("the same again", x.title(12, 2, n % 2 == 0), true);
        }
        x.digits(0, 12000);
        due("the latest word counts", x.appear(1, 0), LOST);
        int[] others = {1, 2, 3, 4, 5};
        for (int count : others) {
            due("012 is not 12 is not 1", x.title(1, count, true), true);
        }
        due("six are there", x.title(2, 1, true), false);
        due("and each can be told anew", x.title(1, 5, false), true);
    }

    private static void titleOfMostDigits() {
        section("A subscriber's title is the one of the most digits with which its five begin");
        int[] firsts = {0, 1, 12, 123, 1234, 12345};
        int[] digits = {92345, 19345, 12945, 12395, 12349, 12345};
        for (int longest = 0; longest <= 5; longest++) {
            for (int yes = 0; yes <= 1; yes++) {
                RoamingRegisters x = new RoamingRegisters(2);
                for (int count = 0; count <= 5; count++) {
                    // Told from the shortest or from the longest: the order of telling is nothing.
                    int told = yes == 1 ? count : 5 - count;
                    x.title(firsts[told], told, (told == longest) == (yes == 1));
                }
                x.digits(0, digits[longest]);
                due(digits[longest] + " begins with " + longest, x.appear(1, 0), yes == 1 ? 1 : LOST);
            }
        }
        RoamingRegisters x = new RoamingRegisters(2);
        x.title(0, 1, false);
        x.title(0, 0, true);
        x.digits(1, 9999);
        x.digits(2, 10000);
        due("09999 begins with 0", x.appear(1, 1), LOST);
        due("10000 does not", x.appear(1, 2), 1);
    }

    private static void reached() {
        section("it is REACHED if there is one and it is YES.");
        RoamingRegisters x = new RoamingRegisters(2);
        due("there is none", x.appear(1, 0), LOST);
        x.title(1, 1, true);
        due("none of its own", x.appear(1, 0), LOST);
        x.title(0, 0, false);
        due("NO", x.appear(1, 0), LOST);
        x.title(0, 0, true);
        due("YES", x.appear(1, 0), 1);
        x.title(0, 5, false);
        due("NO of more digits", x.appear(1, 1), LOST);
    }

    private static void dialogueNumbers() {
        section("Each node numbers the dialogues that it opens 1, 2, .. and never uses a number again.");
        RoamingRegisters x = reachable(2);
        for (int n = 1; n <= 5; n++) {
            due("appear(1, 0)", x.appear(1, 0), n);
            due("refused: no number", x.appear(1, 0), BUSY);
            deliverAll(x);
            dueDialogues(x, 1);
        }
        due("the home numbers for itself", x.ask(0), 6);
        due("another node too", x.appear(2, 1), 1);
        x.appear(1, 2);
        x.appear(1, 3);
        dueDialogues(x, 1, 6, 7);
        ticks(x, 10);
        due("ended by its deadline", x.appear(1, 0), 8);
        due("all the home's kinds share its numbers", x.ask(0), 7);
        loseAll(x);
        x.appear(2, 0);
        x.deliver(0);
        dueDialogues(x, 0, 7, 8);
        x.tick();
        dueDialogues(x, 0, 7, 8, 9);
    }

    private static void dialoguesOpenAtOnce() {
        section("The home has at most four open at once, a visited node at most two.");
        RoamingRegisters x = reachable(4);
        for (int v = 1; v <= 4; v++) {
            due("one", x.appear(v, v - 1), 1);
            due("two", x.appear(v, v % 4), 2);
            due("no third", x.appear(v, (v + 1) % 4), BUSY);
            dueDialogues(x, v, 1, 2);
        }
        for (int n = 0; n < 8; n++) {
            x.deliver(0);
        }
        dueDialogues(x, 0, 1, 2, 3, 4);
        due("no fifth by ask", x.ask(0), BUSY);
        dueDialogues(x, 0, 1, 2, 3, 4);
        RoamingRegisters six = sixCancellations();
        six.tick();
        dueDialogues(six, 0, 11, 12, 13, 14);
        six.tick();
        dueDialogues(six, 0, 11, 12, 13, 14);
    }

    private static void updateKnowsItsRegistration() {
        section("An UPDATE knows the number of the registration that it answers.");
        RoamingRegisters x = reachable(2);
        register(x, 2, 0);
        x.appear(2, 1);
        x.appear(2, 0);
        x.deliver(1);
        x.deliver(0);
        loseAll(x);
        dueDialogues(x, 0, 2, 3);
        ticks(x, 6);
        dueDatagram(x, 0, 0, 2, 4, 0, 0, 2, 3, 0);
        dueDatagram(x, 1, 0, 2, 4, 0, 0, 3, 2, 0);
    }

    private static void latestAtTheEnd() {
        section("DATAGRAMS in flight are a list, at most 24, the latest at its end");
        RoamingRegisters x = reachable(2);
        due("flying", x.flying(), 0);
        x.appear(1, 0);
        x.appear(2, 1);
        due("the earlier", x.datagram(0, 0), 1);
        due("the later", x.datagram(1, 0), 2);
        x.copy(0);
        due("the copy is the latest", x.datagram(2, 0), 1);
        x.deliver(0);
        due("the rest moves up", x.datagram(0, 0), 2);
        due("what was sent is the latest", x.datagram(2, 2), 2);
        for (int n = 4; n <= 24; n++) {
            due("copy", x.copy(0), true);
            due("flying", x.flying(), n);
        }
        due("no twenty-fifth", x.copy(0), false);
        due("flying", x.flying(), 24);
    }

    private static void lostIf24() {
        section("to SEND one puts it there, or loses it, if 24 are in flight.");
        RoamingRegisters x = reachable(2);
        x.appear(1, 0);
        fillNetwork(x, 23);
        due("23 in flight", x.appear(2, 0), 1);
        dueDatagram(x, 23, 2, 0, 1, 1, 0, 1, 0, 0);
        due("24 in flight", x.appear(2, 1), 2);
        due("opened all the same", x.registration(2, 1), 1);
        due("flying", x.flying(), 24);
        dueDatagram(x, 23, 2, 0, 1, 1, 0, 1, 0, 0);
        loseAll(x);
        due("what was lost never comes", x.deliver(0), BAD);
        lostAsk();
        lostInTick();
    }

    private static void lostAsk() {
        RoamingRegisters x = registered(2, 1, 0);
        x.appear(2, 1);
        fillNetwork(x, 23);
        due("ask, 23 in flight", x.ask(0), 2);
        dueDatagram(x, 23, 0, 1, 1, 4, 0, 2, 0, 0);
        due("ask, 24 in flight", x.ask(0), 3);
        due("it is open", x.answer(3), OPEN);
        dueDatagram(x, 23, 0, 1, 1, 4, 0, 2, 0, 0);
        ticks(x, 6);
        due("and not answered", x.answer(3), -3);
    }

    private static void lostInTick() {
        RoamingRegisters x = reachable(4);
        register(x, 1, 0);
        register(x, 2, 0);
        x.appear(3, 1);
        x.appear(3, 2);
        x.deliver(0);
        x.deliver(0);
        fillNetwork(x, 22);
        x.tick();
        due("the CANCEL is sent", x.flying(), 23);
        dueDatagram(x, 22, 0, 1, 1, 3, 0, 5, 0, 0);
        ticks(x, 4);
        due("the next CANCEL is sent", x.flying(), 24);
        dueDatagram(x, 23, 0, 1, 1, 3, 0, 6, 0, 0);
        x.lose(0);
        x.tick();
        dueDialogues(x, 0, 6);
        due("of two ABORTs one is sent", x.flying(), 24);
        dueDatagram(x, 23, 0, 3, 4, 0, 0, 3, 1, 0);
        ticks(x, 3);
        dueDialogues(x, 0, 7);
        due("a CANCEL is lost", x.datagram(23, 2), 4);
    }

    private static void zeroForNone() {
        section("the sender's dialogue (0 for none), the receiver's dialogue (0 for none), and a value (0 where none is told).");
        RoamingRegisters x = registered(2, 2, 3);
        x.appear(1, 3);
        dueDatagram(x, 0, 1, 0, 1, 1, 3, 1, 0, 0);
        x.deliver(0);
        dueDatagram(x, 0, 0, 1, 2, 2, 3, 2, 1, 0);
        x.deliver(0);
        dueDatagram(x, 0, 1, 0, 2, 2, 3, 1, 2, 0);
        x.deliver(0);
        dueDatagram(x, 0, 0, 1, 3, 1, 3, 2, 1, 0);
        x.deliver(0);
        x.tick();
        dueDatagram(x, 0, 0, 2, 1, 3, 3, 3, 0, 0);
        x.deliver(0);
        dueDatagram(x, 0, 2, 0, 3, 3, 3, 0, 3, 0);
        x.deliver(0);
        x.ask(3);
        dueDatagram(x, 0, 0, 1, 1, 4, 3, 4, 0, 0);
        x.deliver(0);
        dueDatagram(x, 0, 1, 0, 3, 4, 3, 0, 4, 100);
    }

    private static void operationOfAbort() {
        section("Operations: 1 UPDATE, 2 INSERT, 3 CANCEL, 4 PROVIDE; 0 with ABORT.");
        RoamingRegisters x = reachable(2);
        x.appear(1, 3);
        x.deliver(0);
        ticks(x, 6);
        due("ABORT's form", x.datagram(1, 2), 4);
        due("ABORT's operation", x.datagram(1, 3), 0);
        due("ABORT's subscriber", x.datagram(1, 4), 0);
        due("deliver", x.deliver(1), 40);
    }
}
