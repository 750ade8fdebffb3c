/** Promises 13 to 17 and 24: letters, answers, what is told of them, and the state. */
public final class LettersTest {
    private static final int[] FAR = {Integer.MIN_VALUE, -1, Integer.MAX_VALUE};
    private static final Due due = new Due();

    public static void main(String[] args) {
        send();
        sendMost();
        answer();
        told();
        at();
        found();
        foundMost();
        staysAsItWas();
        state();
        due.finish();
    }

    private static void send() {
        DoorGuard x = new DoorGuard();
        Due.feed(x, "here");
        for (int far : FAR) {
            due.is("send sender", x.send(far, 0, 0), -1);
            due.is("send taker", x.send(0, far, 0), -1);
            due.is("send way", x.send(0, 0, far), -1);
        }
        due.is("send sender", x.send(10, 0, 0), -1);
        due.is("send taker", x.send(0, 10, 0), -1);
        due.is("send way", x.send(0, 0, 3), -1);
        due.is("a refused send leaves the tape", x.state(3), 4);
        due.is("send", x.send(9, 9, 2), 0);
        due.is("send empties the tape", x.state(3), 0);
        due.is("send of nothing", x.send(0, 0, 0), 1);
        due.is("a letter of nothing", x.told(1, 7), 0);
        due.is("its first byte", x.at(1, 0, false), -1);
    }

    private static void sendMost() {
        DoorGuard x = new DoorGuard();
        for (int i = 0; i < 60; i++) {
            due.is("send", x.send(i % 10, 0, 0), i);
        }
        Due.feed(x, "one more");
        due.is("the 61st", x.send(0, 0, 0), -1);
        due.is("state(1)", x.state(1), 60);
        due.is("state(3)", x.state(3), 8);
        due.is("the last", x.told(59, 0), 9);
        due.is("no 61st", x.told(60, 0), -1);
    }

    /** Kind i is the mark "k" with its number behind it, and its rule's act is i. */
    private static DoorGuard actsGuard() {
        DoorGuard x = new DoorGuard();
        for (int i = 0; i <= 4; i++) {
            Due.mark(x, i, "k" + i);
            x.rule(i, -1, -1, i, i);
        }
        return x;
    }

    private static void answer() {
        DoorGuard x = actsGuard();
        for (int i = 0; i <= 4; i++) {
            Due.send(x, 0, 0, 0, "k" + i);
            due.is("fate of act " + i, x.told(i, 6), i >= 3 ? 1 : 0);
        }
        for (int i = 0; i <= 2; i++) {
            due.is("answer of what does not wait", x.answer(i, false), false);
            due.is("it left", x.told(i, 6), 0);
        }
        for (int far : FAR) {
            due.is("answer", x.answer(far, true), false);
        }
        due.is("answer(5)", x.answer(5, true), false);
        due.is("answer(3, true)", x.answer(3, true), true);
        due.is("it left", x.told(3, 6), 0);
        due.is("its act stays", x.told(3, 4), 3);
        due.is("answer(3) again", x.answer(3, false), false);
        due.is("it left", x.told(3, 6), 0);
        due.is("answer(4, false)", x.answer(4, false), true);
        due.is("it was ended", x.told(4, 6), 2);
        due.is("answer(4) again", x.answer(4, true), false);
        due.is("it was ended", x.told(4, 6), 2);
    }

    private static void told() {
        DoorGuard x = actsGuard();
        x.days(17);
        Due.send(x, 3, 4, 2, "k4 %6b4 k3 k5%20");
        int[] want = {3, 4, 2, 17, 3, 3, 1, 16, 1};
        for (int what = 0; what < want.length; what++) {
            due.is("told(0, " + what + ")", x.told(0, what), want[what]);
        }
        x.drop(3);
        Due.send(x, 3, 4, 2, "k4 %6b4");
        due.is("told(1, 5)", x.told(1, 5), 4);
        due.is("told(1, 8)", x.told(1, 8), 2);
        Due.send(x, 3, 4, 2, "nothing");
        int[] wantNothing = {3, 4, 2, 17, 0, -1, 0, 7, 0};
        for (int what = 0; what < wantNothing.length; what++) {
            due.is("told(2, " + what + ")", x.told(2, what), wantNothing[what]);
        }
        for (int far : FAR) {
            due.is("told of no such letter", x.told(far, 0), -1);
            due.is("told of others", x.told(0, far), -1);
        }
        due.is("told(0, 9)", x.told(0, 9), -1);
        due.is("told(3, 0)", x.told(3, 0), -1);
    }

    private static void at() {
        DoorGuard x = actsGuard();
        String text = "a k2 %6B2\u00ff";
        Due.send(x, 0, 0, 0, text);
        due.same("as it came", Due.letter(x, 0, false), text);
        due.same("as it leaves", Due.letter(x, 0, true), "a ** ****\u00ff");
        due.is("a high byte", x.at(0, 9, true), 255);
        x.rule(0, -1, -1, 4, 4);
        Due.send(x, 0, 0, 0, "k4 k2");
        due.is("it waits", x.told(1, 6), 1);
        due.same("as it would leave, as it waits", Due.letter(x, 1, true), "k4 k2");
        x.answer(1, false);
        due.is("it was ended", x.told(1, 6), 2);
        due.same("as it would leave, as it was ended", Due.letter(x, 1, true), "k4 k2");
        due.same("as it came", Due.letter(x, 1, false), "k4 k2");
        for (int far : FAR) {
            due.is("at of no such letter", x.at(far, 0, false), -1);
            due.is("at of no such byte", x.at(0, far, false), -1);
            due.is("at of no such byte", x.at(0, far, true), -1);
        }
        due.is("at(2, 0)", x.at(2, 0, true), -1);
        due.is("at(0, 10)", x.at(0, 10, false), -1);
        due.is("at(0, 10)", x.at(0, 10, true), -1);
    }

    private static void found() {
        DoorGuard x = actsGuard();
        Due.send(x, 0, 0, 0, "k1, %2561%256b1, k%31");
        due.same("found", Due.findings(x, 0), "0-1:-1 17-20:-1");
        Due.send(x, 0, 0, 0, "nothing");
        due.is("nothing found", x.found(1, 0, 0), -1);
        for (int far : FAR) {
            due.is("found in no such letter", x.found(far, 0, 0), -1);
            due.is("found of no such one", x.found(0, far, 0), -1);
            due.is("found of others", x.found(0, 0, far), -1);
        }
        for (int what = 0; what <= 2; what++) {
            due.is("found(0, 2)", x.found(0, 2, what), -1);
            due.is("found(2, 0)", x.found(2, 0, what), -1);
        }
        due.is("found(0, 0, 3)", x.found(0, 0, 3), -1);
    }

    private static void foundMost() {
        DoorGuard x = new DoorGuard();
        String text = "aaaa a ".repeat(42) + "aaaa a";
        Due.keep(x, 0, text);
        x.near(0, 0, 2);
        x.rule(0, -1, -1, 0, 2);
        Due.send(x, 0, 0, 0, text);
        due.is("told(0, 8)", x.told(0, 8), 43 * 43 + 42 * 42);
        due.is("the last one's place", x.found(0, 43 * 43 + 42 * 42 - 1, 1), 299);
        due.is("the last one's part", x.found(0, 43 * 43 + 42 * 42 - 1, 2), 84);
        due.is("beyond", x.found(0, 43 * 43 + 42 * 42, 2), -1);
        due.same("all black", Due.letter(x, 0, true), "*".repeat(300));
    }

    private static void staysAsItWas() {
        DoorGuard x = new DoorGuard();
        Due.keep(x, 0, "the secret plan");
        x.near(0, 0, 2);
        x.rule(0, -1, -1, 0, 2);
        Due.send(x, 1, 2, 0, "a secret plan");
        Due.keep(x, 0, "other words");
        x.count(0, 3);
        x.drop(0);
        x.allow(0, 1, 2, true);
        x.days(5);
        due.is("day", x.told(0, 3), 0);
        due.is("act", x.told(0, 4), 2);
        due.is("kind", x.told(0, 5), 0);
        due.is("found", x.told(0, 8), 1);
        due.same("found", Due.findings(x, 0), "2-12:1");
        due.same("leaves", Due.letter(x, 0, true), "a ***********");
    }

    private static void state() {
        DoorGuard x = actsGuard();
        x.days(3);
        int[] acts = {0, 1, 1, 2, 3, 4, 4, 4};
        for (int act : acts) {
            Due.send(x, 0, 0, 0, "k" + act);
        }
        x.answer(4, true);
        x.answer(5, false);
        Due.feed(x, "12345");
        int[] want = {3, 8, 5, 5, 2, 2, 1};
        for (int what = 0; what < want.length; what++) {
            due.is("state(" + what + ")", x.state(what), want[what]);
        }
        due.is("state(7)", x.state(7), -1);
        for (int far : FAR) {
            due.is("state(" + far + ")", x.state(far), -1);
        }
    }
}
