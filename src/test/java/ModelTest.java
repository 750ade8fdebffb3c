import java.nio.charset.StandardCharsets;
import java.util.Random;

/**
 * Runs of 512 calls, the same ones each time, on a DoorGuard and on the Model: all answers are alike.
 * Some runs have short texts and many rules, so that letters and rules come up to their bounds and stay there.
 */
public final class ModelTest {
    private static final int RUNS = 300;
    private static final int CALLS = Script.MOST_CALLS;
    private static final String[] VOCABULARY = {"the", "secret", "plan", "of", "house", "aaaa", "b", "key", "42"};
    private static final String[] GAPS = {" ", " ", " ", ", ", "-", "%20", "%2520", "%252520", "%25252520", "\u00ff", "%"};
    private static final String[] NUMBERS = {"4111 1111-1111 1111", "00000000", "79927398713", "79927398710",
        "0000%30000", "00000000000000000", "0000-%32", "1234 567-4", "18"};

    private final Random random;
    private final Due due;
    private final int run;
    /** How often an argument is any int, and not one that is mostly within bounds. */
    private final int wildness;
    /** Whether the run is one of short texts and many rules. */
    private final boolean fills;
    private final DoorGuard guard = new DoorGuard();
    private final Model model = new Model();
    private byte[] waiting = {};
    private int fed = 0;
    private int calls = 0;
    private static int fullOfLetters = 0;
    private static int fullOfRules = 0;

    private ModelTest(int run, Due due) {
        this.run = run;
        this.due = due;
        random = new Random(7000 + run);
        wildness = run % 5 == 0 ? 8 : 200;
        fills = run % 3 == 0;
    }

    public static void main(String[] args) {
        Due due = new Due();
        for (int run = 0; run < RUNS; run++) {
            ModelTest test = new ModelTest(run, due);
            while (test.calls < CALLS) {
                test.step();
            }
            fullOfLetters += test.model.state(1) == 60 ? 1 : 0;
            fullOfRules += test.model.state(2) >= 19 ? 1 : 0;
        }
        due.is("runs that were full of letters are many", fullOfLetters >= RUNS / 10, true);
        due.is("runs that were full of rules are many", fullOfRules >= RUNS / 10, true);
        due.finish();
    }

    /** A number from least to most, now and then one just outside, or any. */
    private int some(int least, int most) {
        if (random.nextInt(wildness) == 0) {
            int[] far = {least - 1, most + 1, Integer.MIN_VALUE, Integer.MAX_VALUE, random.nextInt()};
            return far[random.nextInt(far.length)];
        }
        return least + random.nextInt(Math.max(1, most - least + 1));
    }

    /** Each answer that is looked at is that of one call on the guard. */
    private void same(String call, int got, int want) {
        calls++;
        due.is("run " + run + ": " + call, got, want);
    }

    private void same(String call, boolean got, boolean want) {
        calls++;
        due.is("run " + run + ": " + call, got, want);
    }

    private String text() {
        StringBuilder all = new StringBuilder();
        int most = random.nextInt(6) == 0 ? 60 : 9;
        int words = 1 + random.nextInt(fills ? 2 : most);
        for (int i = 0; i < words; i++) {
            all.append(random.nextInt(12) == 0 ? NUMBERS[random.nextInt(NUMBERS.length)] : word());
            all.append(GAPS[random.nextInt(GAPS.length)]);
        }
        return all.toString();
    }

    private String word() {
        String word = VOCABULARY[random.nextInt(VOCABULARY.length)];
        if (random.nextInt(8) == 0) {
            word = word.toUpperCase();
        }
        return random.nextInt(10) == 0 ? wrapped(word, random.nextInt(word.length())) : word;
    }

    private String wrapped(String word, int at) {
        String hex = Integer.toHexString(word.charAt(at));
        String sign = new String[] {"%", "%25", "%2525", "%252525"}[random.nextInt(4)];
        return word.substring(0, at) + sign + (random.nextBoolean() ? hex : hex.toUpperCase()) + word.substring(at + 1);
    }

    /** A text comes to the tape over as many calls as it needs; only then does another call come. */
    private void feed() {
        int[] five = new int[5];
        for (int i = 0; i < 20 && fed < waiting.length; i++) {
            if (random.nextInt(50) != 0) {
                five[i / 4] |= (waiting[fed] & 255) << (24 - 8 * (i % 4));
                fed++;
            }
        }
        same("feed", guard.feed(five[0], five[1], five[2], five[3], five[4]),
            model.feed(five[0], five[1], five[2], five[3], five[4]));
    }

    private void step() {
        if (fed < waiting.length) {
            feed();
            return;
        }
        if (fills && random.nextInt(4) == 0) {
            int[] r = rule();
            same("rule", guard.rule(r[0], r[1], r[2], r[3], r[4]), model.rule(r[0], r[1], r[2], r[3], r[4]));
            return;
        }
        switch (random.nextInt(10)) {
            case 0, 1, 2:
                waiting = text().getBytes(StandardCharsets.ISO_8859_1);
                fed = 0;
                feed();
                break;
            case 3, 4:
                send();
                break;
            case 5:
                kindOrRule();
                break;
            case 6:
                trial();
                break;
            default:
                look();
                break;
        }
    }

    private void send() {
        int sender = some(0, random.nextInt(3) == 0 ? 9 : 1);
        int taker = some(0, random.nextInt(3) == 0 ? 9 : 1);
        int way = some(0, 2);
        same("send", guard.send(sender, taker, way), model.send(sender, taker, way));
    }

    private void kindOrRule() {
        int kind = some(0, random.nextInt(4) == 0 ? 7 : 3);
        int text = some(0, random.nextInt(4) == 0 ? 7 : 1);
        int n = random.nextInt(3) == 0 ? some(2, 8) : some(2, 3);
        int m = random.nextInt(3) == 0 ? some(1, 50) : some(1, 6);
        int days = some(0, random.nextInt(3) == 0 ? 30 : 2);
        switch (random.nextInt(10)) {
            case 0:
                same("mark", guard.mark(kind), model.mark(kind));
                break;
            case 1:
                same("near", guard.near(kind, text, n), model.near(kind, text, n));
                break;
            case 2:
                same("count", guard.count(kind, m), model.count(kind, m));
                break;
            case 3:
                same("pieces", guard.pieces(kind, text, n, m, days), model.pieces(kind, text, n, m, days));
                break;
            case 4, 5:
                same("keep", guard.keep(text), model.keep(text));
                break;
            case 6:
                int place = some(0, model.state(2));
                same("drop", guard.drop(place), model.drop(place));
                break;
            case 7:
                int taker = some(0, 1);
                boolean is = random.nextInt(3) != 0;
                same("allow", guard.allow(kind, m % 3, taker, is), model.allow(kind, m % 3, taker, is));
                break;
            default:
                int[] r = rule();
                same("rule", guard.rule(r[0], r[1], r[2], r[3], r[4]), model.rule(r[0], r[1], r[2], r[3], r[4]));
                break;
        }
    }

    private int[] rule() {
        int sender = random.nextBoolean() ? -1 : some(-1, random.nextInt(3) == 0 ? 9 : 1);
        int way = random.nextBoolean() ? -1 : some(-1, 2);
        return new int[] {some(0, model.state(2)), sender, way, some(0, random.nextInt(4) == 0 ? 7 : 3), some(0, 4)};
    }

    private void trial() {
        int[] r = rule();
        if (random.nextBoolean()) {
            same("trial", guard.trial(r[0], r[1], r[2], r[3], r[4]), model.trial(r[0], r[1], r[2], r[3], r[4]));
        } else {
            int i = some(0, 5);
            same("tried", guard.tried(r[0], r[1], r[2], r[3], r[4], i), model.tried(r[0], r[1], r[2], r[3], r[4], i));
        }
    }

    private void look() {
        int letter = some(0, model.state(1) - 1);
        int what = some(0, 8);
        switch (random.nextInt(13)) {
            case 0, 1:
                same("told", guard.told(letter, what), model.told(letter, what));
                break;
            case 2, 3:
                int i = some(0, model.told(letter, 7));
                boolean leaves = random.nextInt(4) != 0;
                same("at", guard.at(letter, i, leaves), model.at(letter, i, leaves));
                break;
            case 4, 5, 6:
                int f = some(0, model.told(letter, 8));
                same("found", guard.found(letter, f, what % 3), model.found(letter, f, what % 3));
                break;
            case 7:
                if (random.nextBoolean()) {
                    same("words", guard.words(), model.words());
                } else {
                    same("numbers", guard.numbers(), model.numbers());
                }
                break;
            case 8:
                int text = some(0, 2);
                int n = some(2, 4);
                same("parts", guard.parts(text, n), model.parts(text, n));
                break;
            case 9:
                boolean is = random.nextBoolean();
                same("answer", guard.answer(letter, is), model.answer(letter, is));
                break;
            case 10:
                int one = some(0, model.state(2));
                int other = some(0, model.state(2));
                same("quarrel", guard.quarrel(one, other), model.quarrel(one, other));
                break;
            case 11:
                same("state", guard.state(what), model.state(what));
                break;
            default:
                timeGoesByOrTheTapeEnds();
                break;
        }
    }

    private void timeGoesByOrTheTapeEnds() {
        if (random.nextBoolean()) {
            int n = random.nextInt(4) == 0 ? some(0, 100) : some(0, 2);
            same("days", guard.days(n), model.days(n));
        } else {
            int n = some(0, model.state(3));
            same("end", guard.end(n), model.end(n));
        }
    }
}
