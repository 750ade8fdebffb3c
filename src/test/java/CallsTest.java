import com.sun.management.ThreadMXBean;
import java.lang.management.ManagementFactory;

/**
 * "An object is used for at most 512 calls": all of them answer as is due, the last one too, whatever they are;
 * and what so many of the dearest calls make has room.
 */
public final class CallsTest {
    private static final int CALLS = Script.MOST_CALLS;
    /** No field or element has less than a byte and no object less than 12, so both bounds of the room hold. */
    private static final long MOST_BYTES_MADE = 7_200_000L;
    private static final Due due = new Due();

    public static void main(String[] args) {
        feedsAndEnds();
        daysGoBy();
        keptTexts();
        marks();
        pairsAllowed();
        rulesThatComeAndGo();
        trialsOfAll();
        refusedCalls();
        roomForNear();
        roomForShortLetters();
        roomForMarks();
        roomForTrials();
        due.finish();
    }

    /** Makes the last of 512 calls, and looks at whether it is the last. */
    private static void last(DoorGuard x, int callsBefore, Call call, int want) {
        due.is("calls ahead of the last", callsBefore, CALLS - 1);
        due.is("the last call, " + call, call.on(x), want);
    }

    private static void feedsAndEnds() {
        DoorGuard x = new DoorGuard();
        for (int i = 0; i < CALLS - 1; i++) {
            if (i % 16 == 15) {
                due.is("end", x.end(0), true);
            } else {
                due.is("feed", x.feed(-1, -1, -1, -1, -1), 20 * (i % 16 + 1));
            }
        }
        last(x, CALLS - 1, new Call("end", 299), 1);
    }

    private static void daysGoBy() {
        DoorGuard x = new DoorGuard();
        for (int i = 1; i < CALLS; i++) {
            due.is("days", x.days(1), i);
        }
        last(x, CALLS - 1, new Call("days", 100), CALLS - 1 + 100);
    }

    private static void keptTexts() {
        DoorGuard x = new DoorGuard();
        for (int i = 0; i < CALLS / 2 - 1; i++) {
            due.is("keep", Due.keep(x, i % 8, "aaaa bbbb cccc " + i), 4);
        }
        Due.feed(x, "bbbb cccc 254 254");
        last(x, CALLS - 1, new Call("parts", 254 % 8, 3), 1);
    }

    private static void marks() {
        DoorGuard x = new DoorGuard();
        x.send(0, 0, 0);
        for (int i = 0; i < CALLS / 2 - 2; i++) {
            due.is("mark", Due.mark(x, i % 8, "key" + i), true);
        }
        x.words();
        x.numbers();
        last(x, 1 + 2 * (CALLS / 2 - 2) + 2, new Call("trial", 0, -1, -1, 5, 4), 0);
    }

    private static void pairsAllowed() {
        DoorGuard x = new DoorGuard();
        for (int i = 0; i < CALLS - 1; i++) {
            due.is("allow", x.allow(i / 100, i / 10 % 10, i % 10, true), true);
        }
        last(x, CALLS - 1, new Call("allow", 5, 1, 1, 1), 1);
    }

    private static void rulesThatComeAndGo() {
        DoorGuard x = new DoorGuard();
        for (int i = 0; i < 20; i++) {
            x.rule(0, i % 10, -1, 0, 1);
        }
        for (int i = 0; i < (CALLS - 22) / 2; i++) {
            due.is("drop", x.drop(i % 20), true);
            due.is("rule", x.rule(i * 7 % 20, i % 10, -1, 0, 1), 20);
        }
        x.state(0);
        last(x, 20 + CALLS - 22 + 1, new Call("rule", 0, -1, -1, 0, 0), -1);
    }

    private static void trialsOfAll() {
        DoorGuard x = new DoorGuard();
        Due.mark(x, 0, "key");
        for (int i = 0; i < 60; i++) {
            Due.send(x, 0, 0, 0, "key");
        }
        for (int i = 0; i < CALLS - 123; i++) {
            due.is("trial", x.trial(0, -1, -1, 0, 1 + i % 4), 60);
        }
        last(x, 2 + 120 + CALLS - 123, new Call("tried", 0, -1, -1, 0, 4, 59), 59);
    }

    private static void refusedCalls() {
        DoorGuard x = new DoorGuard();
        for (int i = 0; i < CALLS - 1; i++) {
            due.is("send", x.send(-1 - i, 0, 0), -1);
        }
        last(x, CALLS - 1, new Call("send", 0, 0, 0), 0);
    }

    // ---- The room that all calls of a run share.

    private static long bytesMade() {
        return ((ThreadMXBean) ManagementFactory.getThreadMXBean()).getCurrentThreadAllocatedBytes();
    }

    private static void hasRoom(String what, Script script) {
        due.is(what + ": calls", script.size() <= CALLS, true);
        Call[] calls = script.calls().toArray(new Call[0]);
        long before = bytesMade();
        DoorGuard x = new DoorGuard();
        for (Call call : calls) {
            call.on(x);
        }
        long made = bytesMade() - before;
        due.is(what + ": " + made + " bytes are few enough", made <= MOST_BYTES_MADE, true);
    }

    private static void roomForNear() {
        String most = "aaaa a ".repeat(42) + "aaaa a";
        Script script = new Script().text(most).call("keep", 0);
        for (int kind = 0; kind < 8; kind++) {
            script.call("near", kind, 0, 2);
        }
        script.call("rule", 0, -1, -1, 0, 2);
        while (script.size() + 16 <= CALLS) {
            script.letter(0, 0, 0, most);
        }
        hasRoom("the longest letters", script);
    }

    private static void roomForShortLetters() {
        String most = "aaaa a ".repeat(42) + "aaaa a";
        Script script = new Script().text(most).call("keep", 0);
        script.call("near", 0, 0, 2).call("rule", 0, -1, -1, 0, 2);
        for (int i = 0; i < 60; i++) {
            script.letter(0, 0, 0, most.substring(0, 140));
        }
        hasRoom("the most letters", script);
    }

    private static void roomForMarks() {
        Script script = new Script();
        while (script.size() + 16 <= CALLS) {
            script.text("a ".repeat(150)).call(script.size() % 32 == 15 ? "mark" : "keep", 0);
        }
        hasRoom("the longest marks and texts", script);
        Script shorter = new Script();
        while (shorter.size() + 2 <= CALLS) {
            shorter.text("a b c d e f g h i j ").call("mark", 0);
        }
        hasRoom("the most marks", shorter);
    }

    private static void roomForTrials() {
        Script script = new Script().text("key").call("mark", 0);
        for (int i = 0; i < 20; i++) {
            script.call("rule", 0, -1, -1, 0, 2);
        }
        for (int i = 0; i < 60; i++) {
            script.letter(0, 0, 0, "key");
        }
        while (script.size() < CALLS) {
            script.call("trial", 20, -1, -1, 0, 1);
        }
        hasRoom("the most trials", script);
    }
}
