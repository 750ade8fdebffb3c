import java.util.ArrayList;
import java.util.Arrays;
import java.util.List;

/**
 * Calls that lead a new object somewhere, and rows of calls that show, each from there, where it is.
 * An object has 512 calls alone, so each row is asked of an object of its own.
 */
final class Scene {
    private final String name;
    private final List<Call> calls;
    private final int letters;
    private final int rules;
    private final int tape;
    private final List<List<Call>> rows = new ArrayList<>();
    private final List<int[]> answers = new ArrayList<>();

    Scene(String name, Script script) {
        this.name = name;
        calls = script.calls();
        DoorGuard x = reached();
        letters = x.state(1);
        rules = x.state(2);
        tape = x.state(3);
        showByLooking();
        showAllowed();
        showTape();
        showRules();
        showWhatComesNext();
        for (List<Call> row : rows) {
            answers.add(Script.answers(reached(), row, calls.size()));
        }
    }

    /** An object that has come as far as the scene. */
    DoorGuard reached() {
        DoorGuard x = new DoorGuard();
        Script.answers(x, calls, 0);
        return x;
    }

    int answerOf(Call call) {
        return call.on(reached());
    }

    void accepts(Due due, Call call) {
        due.is(name + ": " + call + " is refused", answerOf(call) == call.refused(), false);
    }

    void refuses(Due due, Call call) {
        due.is(name + ": " + call, answerOf(call), call.refused());
        leavesAll(due, call);
    }

    /** Whatever is called behind this call answers as if it had not been made. */
    void leavesAll(Due due, Call call) {
        for (int i = 0; i < rows.size(); i++) {
            DoorGuard x = reached();
            call.on(x);
            int[] got = Script.answers(x, rows.get(i), calls.size() + 1);
            int other = Arrays.mismatch(got, answers.get(i));
            due.same(name + ": what " + call + " changed",
                other < 0 ? "nothing" : rows.get(i).get(other) + " = " + got[other],
                other < 0 ? "nothing" : rows.get(i).get(other) + " = " + answers.get(i)[other]);
        }
    }

    /**
     * Each argument with bounds (the others as they are in a good call) is taken at both bounds, and refused
     * one below, one above, and at the least and the greatest int. Bounds of null are not looked at.
     */
    void bounds(Due due, Call good, int[]... bounds) {
        for (int place = 0; place < bounds.length; place++) {
            if (bounds[place] != null) {
                accepts(due, good.with(place, bounds[place][0]));
                accepts(due, good.with(place, bounds[place][1]));
            }
        }
        outOfBounds(due, good, bounds);
    }

    void outOfBounds(Due due, Call good, int[]... bounds) {
        for (int place = 0; place < bounds.length; place++) {
            if (bounds[place] != null) {
                refuses(due, good.with(place, bounds[place][0] - 1));
                refuses(due, good.with(place, bounds[place][1] + 1));
                refuses(due, good.with(place, Integer.MIN_VALUE));
                refuses(due, good.with(place, Integer.MAX_VALUE));
            }
        }
    }

    private int room() {
        return Script.MOST_CALLS - calls.size() - 1;
    }

    private void show(Script script) {
        rows.add(script.calls().subList(0, Math.min(script.size(), room())));
    }

    /** Calls that only look can be parted into as many rows as they need. */
    private void showByLooking() {
        Script all = new Script();
        for (int what = 0; what <= 7; what++) {
            all.call("state", what);
        }
        all.call("words").call("numbers");
        for (int i = 0; i < 8 * 7; i++) {
            all.call("parts", i / 7, 2 + i % 7);
        }
        for (int letter = 0; letter <= letters; letter++) {
            lookAtLetter(all, letter);
        }
        for (int i = 0; i < rules * rules; i++) {
            all.call("quarrel", i / rules, i % rules);
        }
        for (int i = 0; i < 8 * 5; i++) {
            lookByTrial(all, 0, i / 5, i % 5);
            lookByTrial(all, rules, i / 5, i % 5);
        }
        for (int from = 0; from < all.size(); from += room()) {
            rows.add(all.calls().subList(from, Math.min(from + room(), all.size())));
        }
    }

    private void lookAtLetter(Script all, int letter) {
        for (int what = 0; what <= 8; what++) {
            all.call("told", letter, what);
        }
        for (int i = 0; i < 24; i++) {
            all.call("at", letter, i / 2, i % 2);
        }
        for (int i = 0; i < 9; i++) {
            all.call("found", letter, i / 3, i % 3);
        }
    }

    private static void lookByTrial(Script all, int place, int kind, int act) {
        all.call("trial", place, -1, -1, kind, act);
        for (int i = 0; i < 3; i++) {
            all.call("tried", place, -1, -1, kind, act, i);
        }
    }

    private void showAllowed() {
        for (int kind = 0; kind < 8; kind++) {
            Script all = new Script();
            for (int pair = 0; pair < 100; pair++) {
                all.call("allow", kind, pair / 10, pair % 10, pair % 3 == 0 ? 0 : 1);
            }
            show(all);
        }
    }

    private void showTape() {
        Script sent = new Script().call("send", 8, 7, 1);
        for (int i = 0; i <= tape; i++) {
            sent.call("at", letters, i, 0);
        }
        show(sent);
        Script ends = new Script();
        for (int n = tape; n >= 0; n -= 3) {
            ends.call("end", n).call("words").call("numbers");
        }
        show(ends);
        Script kept = new Script().call("keep", 6).text("tape Key secret plan aaaa");
        for (int n = 2; n <= 8; n++) {
            kept.call("parts", 6, n);
        }
        show(kept.call("near", 4, 6, 2).call("trial", 0, -1, -1, 4, 4).call("mark", 4).call("trial", 0, -1, -1, 4, 4));
    }

    private void showRules() {
        Script dropped = new Script();
        for (int i = 0; i <= rules; i++) {
            lookByTrial(dropped, 0, 4, 4);
            dropped.call("drop", 0);
        }
        show(dropped);
        int last = Math.min(rules, 19);
        for (int i = 0; i < 8 * 2; i++) {
            Script beside = new Script().call("drop", 19);
            for (int act = 0; act <= 1; act++) {
                beside.call("rule", last, i % 2 == 0 ? -1 : 9, i % 2 == 0 ? -1 : 2, i / 2, act);
                for (int place = 0; place < last; place++) {
                    beside.call("quarrel", place, last);
                }
                beside.call("drop", last);
            }
            show(beside);
        }
    }

    private void showWhatComesNext() {
        Script next = new Script().call("days", 0).call("days", 1).call("end", 0);
        next.text("bbbb cccc").call("numbers").call("send", 5, 1, 0).text("key 00000000 door").call("send", 2, 2, 2);
        for (int letter = letters; letter < letters + 2; letter++) {
            lookAtLetter(next, letter);
        }
        for (int letter = 0; letter <= letters; letter++) {
            next.call("answer", letter, letter % 2).call("told", letter, 6);
        }
        show(next.call("state", 4).call("state", 5).call("state", 6).call("days", 100));
    }

    // ---- Where the tests begin.

    static Scene fresh() {
        return new Scene("new", new Script());
    }

    /** Something of all that can be told; its first and its last letter wait. */
    static Scene busy(String tape) {
        Script s = new Script().call("days", 40);
        s.text("the secret plan of the house").call("keep", 0);
        s.text("aaaa bbbb cccc dddd eeee ffff").call("keep", 7);
        kindsInto(s);
        s.call("allow", 0, 1, 2, 1).call("allow", 3, 1, 1, 1).call("allow", 7, 9, 9, 1);
        s.call("rule", 0, -1, -1, 0, 3).call("rule", 1, 1, -1, 1, 2).call("rule", 2, -1, 2, 2, 4);
        s.call("rule", 3, -1, -1, 3, 1).call("rule", 4, 2, 1, 5, 0).call("rule", 5, -1, -1, 0, 4);
        s.letter(0, 0, 0, "key one").letter(1, 2, 0, "key, the secret%20plan");
        s.letter(3, 3, 2, "00000000 x").call("answer", 2, 0);
        s.letter(4, 4, 1, "key").call("answer", 3, 1);
        s.letter(5, 5, 0, "aaaa bbbb").call("days", 1).letter(5, 6, 0, "cccc dddd");
        s.letter(2, 0, 1, "a door").call("send", 6, 0, 0).letter(9, 9, 1, "%6bey");
        return new Scene("busy, '" + tape + "'", s.text(tape));
    }

    private static void kindsInto(Script s) {
        s.text("key").call("mark", 0).call("near", 1, 0, 2).call("count", 2, 1).call("pieces", 3, 7, 2, 2, 1);
        s.text("door").call("mark", 5).call("near", 6, 7, 3).call("count", 7, 2);
    }

    /** As many letters and rules, as long a tape and as late a day as are told. */
    static Scene filled(String name, int day, int letters, int rules, int tape) {
        Script s = new Script();
        s.text("aaaa bbbb cccc").call("keep", 7);
        kindsInto(s);
        for (int i = 0; i < rules; i++) {
            s.call("rule", i, i % 4 == 0 ? -1 : i % 10, i % 3 == 0 ? -1 : i % 3, i % 8, i % 5);
        }
        for (int left = day; left > 0; left -= 100) {
            s.call("days", Math.min(left, 100));
        }
        String[] texts = {"key 00000000", "aaaa bbbb", "bbbb cccc", "a%20door"};
        for (int i = 0; i < letters; i++) {
            s.letter(i % 10, i % 7, i % 3, i % 5 == 0 ? texts[i / 5 % 4] : "");
        }
        String full = "tape Key 00000000 ".repeat(17);
        return new Scene(name, s.text(full.substring(0, tape)));
    }
}
