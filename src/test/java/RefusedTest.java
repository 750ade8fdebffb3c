/**
 * All promises: what each call takes at its bounds and what it refuses beside them, and that a refused call,
 * and a call that only looks, changes nothing that a later call shows.
 */
public final class RefusedTest {
    private static final int MIN = Integer.MIN_VALUE;
    private static final int MAX = Integer.MAX_VALUE;
    private static final int[] KIND = {0, 7};
    private static final int[] TEXT = {0, 7};
    private static final int[] ROW = {2, 8};
    private static final int[] PERSON = {0, 9};
    private static final int[] ACT = {0, 4};
    private static final int[] ANY_PERSON = {-1, 9};
    private static final int[] ANY_WAY = {-1, 2};
    private static final Due due = new Due();

    private static final String BUSY_TAPE = "Key secret%20plan 00000000 aaaa bbbb";
    private static final Scene fresh = Scene.fresh();
    private static final Scene busy = Scene.busy(BUSY_TAPE);
    private static final Scene nearly = Scene.filled("nearly full", 999, 59, 19, 299);
    private static final Scene full = Scene.filled("full", 1000, 60, 20, 300);

    public static void main(String[] args) {
        theScenesAreWhatTheyAreNamed();
        daysAndTape();
        keptTextsAndKinds();
        markWithoutAWord();
        allowed();
        rules();
        letters();
        answers();
        looksAtLetters();
        looksAtTheTape();
        trials();
        quarrelAndState();
        newObject();
        nearlyFull();
        fullTape();
        fullOfRulesAndLetters();
        looksChangeNothing();
        due.finish();
    }

    private static Call call(String name, int... args) {
        return new Call(name, args);
    }

    private static int[] to(int least, int most) {
        return new int[] {least, most};
    }

    private static void theScenesAreWhatTheyAreNamed() {
        int[] wantBusy = {41, 9, 6, BUSY_TAPE.length(), 2, 1, 1};
        for (int what = 0; what < wantBusy.length; what++) {
            due.is("busy state(" + what + ")", busy.answerOf(call("state", what)), wantBusy[what]);
        }
        int[][] wantFilled = {{999, 59, 19, 299}, {1000, 60, 20, 300}};
        for (int what = 0; what < 4; what++) {
            due.is("nearly full state(" + what + ")", nearly.answerOf(call("state", what)), wantFilled[0][what]);
            due.is("full state(" + what + ")", full.answerOf(call("state", what)), wantFilled[1][what]);
        }
        int[] acts = {3, 2, 4, 3, 0, 1, 0, 0, 3};
        for (int letter = 0; letter < acts.length; letter++) {
            due.is("busy told(" + letter + ", 4)", busy.answerOf(call("told", letter, 4)), acts[letter]);
        }
    }

    // ---- Promises 2 to 4. (A feed is refused by a full tape alone: see fullTape.)

    private static void daysAndTape() {
        busy.bounds(due, call("days", 1), to(0, 100));
        busy.bounds(due, call("end", 1), to(0, BUSY_TAPE.length()));
    }

    // ---- Promises 5 to 9.

    private static void keptTextsAndKinds() {
        busy.bounds(due, call("keep", 1), TEXT);
        busy.bounds(due, call("mark", 1), KIND);
        busy.bounds(due, call("near", 1, 1, 3), KIND, TEXT, ROW);
        busy.bounds(due, call("count", 1, 2), KIND, to(1, 20));
        busy.bounds(due, call("pieces", 1, 1, 3, 2, 1), KIND, TEXT, ROW, to(1, 50), to(0, 30));
    }

    private static void markWithoutAWord() {
        Scene wordless = Scene.busy("?!-- %20 \u00e9%");
        Scene empty = Scene.busy("");
        for (int kind : new int[] {-1, 0, 3, 4, 7, 8}) {
            wordless.refuses(due, call("mark", kind));
            empty.refuses(due, call("mark", kind));
        }
    }

    // ---- Promise 10.

    private static void allowed() {
        busy.bounds(due, call("allow", 1, 4, 4, 1), KIND, PERSON, PERSON);
        busy.outOfBounds(due, call("allow", 1, 4, 4, 0), KIND, PERSON, PERSON);
        busy.refuses(due, call("allow", 0, 1, 2, 1));
        busy.refuses(due, call("allow", 7, 9, 9, 1));
        busy.refuses(due, call("allow", 0, 2, 1, 0));
        busy.refuses(due, call("allow", 4, 0, 0, 0));
        busy.accepts(due, call("allow", 0, 1, 2, 0));
        busy.accepts(due, call("allow", 7, 9, 9, 0));
    }

    // ---- Promises 11 and 12.

    private static void rules() {
        busy.bounds(due, call("rule", 1, 4, 1, 3, 2), to(0, 6), ANY_PERSON, ANY_WAY, KIND, ACT);
        busy.bounds(due, call("drop", 1), to(0, 5));
    }

    // ---- Promises 13 and 14.

    private static void letters() {
        busy.bounds(due, call("send", 1, 1, 1), PERSON, PERSON, to(0, 2));
    }

    private static void answers() {
        busy.bounds(due, call("answer", 0, 0), to(0, 8));
        busy.bounds(due, call("answer", 0, 1), to(0, 8));
        for (int letter = 1; letter <= 7; letter++) {
            busy.refuses(due, call("answer", letter, 0));
            busy.refuses(due, call("answer", letter, 1));
        }
    }

    // ---- Promises 15 to 17.

    private static void looksAtLetters() {
        busy.bounds(due, call("told", 0, 0), to(0, 8), to(0, 8));
        for (int leaves = 0; leaves <= 1; leaves++) {
            busy.bounds(due, call("at", 1, 0, leaves), null, to(0, "key, the secret%20plan".length() - 1));
            busy.bounds(due, call("at", 0, 0, leaves), to(0, 8));
            busy.refuses(due, call("at", 7, 0, leaves));
        }
        busy.bounds(due, call("found", 1, 0, 0), null, to(0, 1), to(0, 2));
        busy.bounds(due, call("found", 0, 0, 1), to(0, 8));
        for (int what = 0; what <= 2; what++) {
            busy.refuses(due, call("found", 7, 0, what));
            busy.refuses(due, call("found", 4, 0, what));
        }
        busy.refuses(due, call("found", 0, 0, 2));
    }

    // ---- Promises 18 to 20. (words and numbers refuse nothing.)

    private static void looksAtTheTape() {
        busy.bounds(due, call("parts", 0, 2), TEXT, ROW);
    }

    // ---- Promises 21 and 22.

    private static void trials() {
        busy.bounds(due, call("trial", 0, -1, -1, 1, 4), to(0, 6), ANY_PERSON, ANY_WAY, KIND, ACT);
        due.is("one letter is held by the trial", busy.answerOf(call("trial", 0, -1, -1, 1, 4)), 1);
        busy.bounds(due, call("tried", 0, -1, -1, 1, 4, 0), null, null, null, null, null, to(0, 0));
        busy.outOfBounds(due, call("tried", 0, -1, -1, 1, 4, 0), to(0, 6), ANY_PERSON, ANY_WAY, KIND, ACT);
    }

    // ---- Promises 23 and 24.

    private static void quarrelAndState() {
        busy.accepts(due, call("quarrel", 0, 5));
        busy.accepts(due, call("quarrel", 5, 0));
        busy.outOfBounds(due, call("quarrel", 0, 5), to(0, 5), to(0, 5));
        for (int place = 0; place <= 5; place++) {
            busy.refuses(due, call("quarrel", place, place));
        }
        busy.bounds(due, call("state", 0), to(0, 6));
    }

    // ---- Promise 1: a new object has nothing, so all that needs something is refused.

    private static void newObject() {
        for (int place : new int[] {MIN, -1, 0, 1, MAX}) {
            fresh.refuses(due, call("drop", place));
            fresh.refuses(due, call("answer", place, 1));
            fresh.refuses(due, call("answer", place, 0));
            fresh.refuses(due, call("told", place, 0));
            fresh.refuses(due, call("at", place, 0, 0));
            fresh.refuses(due, call("found", place, 0, 0));
            fresh.refuses(due, call("quarrel", place, 0));
            fresh.refuses(due, call("quarrel", 0, place));
            fresh.refuses(due, call("tried", 0, -1, -1, 0, 4, place));
        }
        fresh.refuses(due, call("mark", 0));
        fresh.bounds(due, call("end", 0), to(0, 0));
        fresh.bounds(due, call("rule", 0, -1, -1, 0, 0), to(0, 0), ANY_PERSON, ANY_WAY, KIND, ACT);
        fresh.bounds(due, call("trial", 0, -1, -1, 0, 0), to(0, 0), ANY_PERSON, ANY_WAY, KIND, ACT);
        fresh.bounds(due, call("days", 0), to(0, 100));
        fresh.bounds(due, call("state", 0), to(0, 6));
    }

    // ---- One more of each, and then no more.

    private static void nearlyFull() {
        nearly.bounds(due, call("days", 0), to(0, 1));
        nearly.refuses(due, call("days", 100));
        nearly.refuses(due, call("days", 101));
        nearly.bounds(due, call("rule", 0, -1, -1, 0, 0), to(0, 19));
        nearly.bounds(due, call("drop", 0), to(0, 18));
        nearly.bounds(due, call("trial", 0, -1, -1, 0, 0), to(0, 19));
        nearly.outOfBounds(due, call("quarrel", 0, 1), to(0, 18), to(0, 18));
        nearly.outOfBounds(due, call("answer", 0, 1), to(0, 58));
        nearly.bounds(due, call("told", 0, 0), to(0, 58));
        nearly.bounds(due, call("end", 0), to(0, 299));
        due.is("the 60th letter", nearly.answerOf(call("send", 0, 0, 0)), 59);
        due.is("the 20th rule", nearly.answerOf(call("rule", 19, 0, 0, 0, 0)), 20);
        due.is("the last day", nearly.answerOf(call("days", 1)), 1000);
        due.is("the 300th byte", nearly.answerOf(call("feed", 0, 0, 0x00610000, 0, 0)), 300);
        nearly.refuses(due, call("feed", 0x61610000, 0, 0, 0, 0));
        nearly.refuses(due, call("feed", 0x61000000, 0, 0, 0, 0x61));
        nearly.refuses(due, call("feed", -1, -1, -1, -1, -1));
    }

    private static void fullTape() {
        due.is("nothing more to a full tape", full.answerOf(call("feed", 0, 0, 0, 0, 0)), 300);
        full.leavesAll(due, call("feed", 0, 0, 0, 0, 0));
        for (int i = 0; i < 20; i++) {
            full.refuses(due, call("feed", 0, 0, 0, 0, 0).with(i / 4, 1 << (8 * (i % 4))));
        }
        full.refuses(due, call("feed", MIN, 0, 0, 0, 0));
        full.refuses(due, call("feed", 0, 0, 0, 0, MIN));
        full.refuses(due, call("feed", MAX, MAX, MAX, MAX, MAX));
        full.bounds(due, call("end", 0), to(0, 300));
        full.bounds(due, call("days", 0), to(0, 0));
        full.refuses(due, call("days", 100));
    }

    private static void fullOfRulesAndLetters() {
        for (int place = -1; place <= 21; place++) {
            full.refuses(due, call("rule", place, -1, -1, 0, 0));
        }
        full.refuses(due, call("rule", MIN, -1, -1, 0, 0));
        full.refuses(due, call("rule", MAX, -1, -1, 0, 0));
        full.refuses(due, call("rule", 0, 9, 2, 7, 4));
        full.refuses(due, call("send", 0, 0, 0));
        full.refuses(due, call("send", 9, 9, 2));
        full.outOfBounds(due, call("send", 0, 0, 0), PERSON, PERSON, to(0, 2));
        full.bounds(due, call("drop", 0), to(0, 19));
        full.bounds(due, call("trial", 0, -1, -1, 0, 0), to(0, 20), ANY_PERSON, ANY_WAY, KIND, ACT);
        full.outOfBounds(due, call("tried", 0, -1, -1, 0, 0, 0), to(0, 20), ANY_PERSON, ANY_WAY, KIND, ACT);
        full.outOfBounds(due, call("quarrel", 0, 1), to(0, 19), to(0, 19));
        full.outOfBounds(due, call("answer", 0, 1), to(0, 59));
        full.bounds(due, call("told", 0, 0), to(0, 59), to(0, 8));
    }

    private static void looksChangeNothing() {
        for (Scene scene : new Scene[] {fresh, busy, nearly, full}) {
            scene.leavesAll(due, call("words"));
            scene.leavesAll(due, call("numbers"));
            scene.leavesAll(due, call("parts", 0, 2));
            scene.leavesAll(due, call("parts", 7, 8));
            scene.leavesAll(due, call("told", 0, 0));
            scene.leavesAll(due, call("at", 0, 0, 1));
            scene.leavesAll(due, call("found", 1, 0, 0));
            scene.leavesAll(due, call("trial", 0, -1, -1, 1, 4));
            scene.leavesAll(due, call("trial", 0, 1, 0, 1, 0));
            scene.leavesAll(due, call("tried", 0, -1, -1, 1, 4, 0));
            scene.leavesAll(due, call("quarrel", 0, 5));
            scene.leavesAll(due, call("state", 6));
            scene.leavesAll(due, call("days", 0));
        }
    }
}
