/** The promises one by one: what a call does at each bound that its section names. RefusedTest has what is refused. */
public final class PromiseBoundsTest {
    private static final int MIN = Integer.MIN_VALUE;
    private static final int MAX = Integer.MAX_VALUE;
    private static final Due due = new Due();

    public static void main(String[] args) {
        newObject();
        daysUpToTheLast();
        daysWhoseSumIsTooLarge();
        feedInOrder();
        feedWithoutZeros();
        feedUpToFull();
        endOfTheTape();
        keepAnew();
        markAnew();
        kindsAnew();
        allowAndNot();
        rulePlaces();
        dropPlaces();
        sendUpToSixty();
        answerOnce();
        toldAndAtOfEachLetter();
        foundUpToTheLast();
        wordsNumbersAndPartsOfAFullTape();
        trialOfNoneAndOfAll();
        trialBesideTwentyRules();
        triedUpToTheLast();
        quarrelOfAllPairs();
        quarrelOfFirstAndLast();
        stateOfAll();
        due.finish();
    }

    private static DoorGuard marking(int act) {
        DoorGuard x = new DoorGuard();
        Due.mark(x, 0, "key");
        x.rule(0, -1, -1, 0, act);
        return x;
    }

    // ---- Promise 1.

    private static void newObject() {
        DoorGuard x = new DoorGuard();
        for (int what = 0; what <= 6; what++) {
            due.is("state(" + what + ")", x.state(what), 0);
        }
        due.is("words", x.words(), 0);
        due.is("numbers", x.numbers(), 0);
        due.is("send of nothing", x.send(0, 0, 0), 0);
        int[] want = {0, 0, 0, 0, 0, -1, 0, 0, 0};
        for (int what = 0; what < want.length; what++) {
            due.is("told(0, " + what + ")", x.told(0, what), want[what]);
        }
        DoorGuard other = new DoorGuard();
        due.is("another object has a state of its own", other.state(1), 0);
    }

    // ---- Promise 2.

    /** A guard on a day of 800 to 1,000. */
    private static DoorGuard onDay(int day) {
        DoorGuard x = new DoorGuard();
        for (int i = 0; i < 8; i++) {
            x.days(100);
        }
        x.days((day - 800) / 2);
        due.is("onDay", x.days(day - 800 - (day - 800) / 2), day);
        return x;
    }

    private static void daysUpToTheLast() {
        for (int day : new int[] {800, 899, 900, 901, 998, 999, 1000}) {
            for (int n : new int[] {0, 1, 2, 99, 100}) {
                DoorGuard x = onDay(day);
                boolean is = day + n <= 1000;
                due.is(n + " days from " + day, x.days(n), is ? day + n : -1);
                due.is("the day", x.state(0), is ? day + n : day);
            }
            due.is("101 days from " + day, onDay(day).days(101), -1);
        }
    }

    private static void daysWhoseSumIsTooLarge() {
        DoorGuard x = new DoorGuard();
        x.days(1);
        for (int n : new int[] {MIN, MIN + 1, -100, -1, 101, 999, 1000, MAX - 1, MAX}) {
            due.is("days(" + n + ")", x.days(n), -1);
            due.is("the day", x.state(0), 1);
        }
        due.is("days(100)", x.days(100), 101);
        due.is("days(0)", x.days(0), 101);
    }

    // ---- Promise 3.

    private static void feedInOrder() {
        DoorGuard x = new DoorGuard();
        due.is("feed", x.feed(0x01020304, 0x05060708, 0x090a0b0c, 0x0d0e0f10, 0x11121314), 20);
        due.is("feed", x.feed(MIN, MAX, -1, 0x80000001, 0xff00ff00), 20 + 1 + 4 + 4 + 2 + 2);
        x.send(0, 0, 0);
        for (int i = 0; i < 20; i++) {
            due.is("byte " + i, x.at(0, i, false), i + 1);
        }
        int[] more = {128, 127, 255, 255, 255, 255, 255, 255, 255, 128, 1, 255, 255};
        for (int i = 0; i < more.length; i++) {
            due.is("byte " + (20 + i), x.at(0, 20 + i, false), more[i]);
            due.is("byte " + (20 + i) + " as it leaves", x.at(0, 20 + i, true), more[i]);
        }
    }

    private static void feedWithoutZeros() {
        DoorGuard x = new DoorGuard();
        due.is("no byte", x.feed(0, 0, 0, 0, 0), 0);
        for (int i = 0; i < 20; i++) {
            int[] five = {0, 0, 0, 0, 0};
            five[i / 4] = (i + 1) << (24 - 8 * (i % 4));
            due.is("one byte at " + i, x.feed(five[0], five[1], five[2], five[3], five[4]), i + 1);
        }
        x.send(0, 0, 0);
        for (int i = 0; i < 20; i++) {
            due.is("byte " + i, x.at(0, i, false), i + 1);
        }
        for (int i = 0; i < 20; i++) {
            int[] five = {-1, -1, -1, -1, -1};
            five[i / 4] &= ~(255 << (8 * (i % 4)));
            due.is("all but one", x.feed(five[0], five[1], five[2], five[3], five[4]), 19);
            x.end(0);
        }
    }

    private static void feedUpToFull() {
        for (int tape = 279; tape <= 300; tape++) {
            for (int more = 0; more <= 20; more++) {
                DoorGuard x = new DoorGuard();
                Due.feed(x, "a".repeat(tape));
                int answer = Due.feed(x, "b".repeat(more));
                boolean fits = tape + more <= 300;
                due.is(more + " more to " + tape, answer, fits ? tape + more : -1);
                due.is("the tape", x.state(3), fits ? tape + more : tape);
                x.send(0, 0, 0);
                due.is("its last byte", x.at(0, x.told(0, 7) - 1, false), fits && more > 0 ? 'b' : 'a');
            }
        }
    }

    // ---- Promise 4.

    private static void endOfTheTape() {
        for (int n : new int[] {0, 1, 149, 299, 300}) {
            DoorGuard x = new DoorGuard();
            Due.feed(x, "a".repeat(300));
            due.is("end(" + n + ")", x.end(n), true);
            due.is("bytes", x.state(3), n);
            due.is("what ended does not come back", x.end(n + 1), false);
            due.is("end again", x.end(n), true);
            due.is("one more", Due.feed(x, "b"), n == 300 ? -1 : n + 1);
            x.send(0, 0, 0);
            due.is("the last byte", x.at(0, Math.min(n, 299), false), n == 300 ? 'a' : 'b');
            due.is("the first byte", x.at(0, 0, false), n == 0 ? 'b' : 'a');
        }
        DoorGuard x = new DoorGuard();
        due.is("end(0) of an empty tape", x.end(0), true);
        due.is("end(1) of an empty tape", x.end(1), false);
    }

    // ---- Promise 5.

    private static void keepAnew() {
        DoorGuard x = new DoorGuard();
        for (int text = 0; text < 8; text += 7) {
            due.is("keep", Due.keep(x, text, "aaaa bbbb cccc"), 3);
            due.is("the tape is empty", x.state(3), 0);
            due.is("keep a shorter one", Due.keep(x, text, "aaaa bbbb"), 2);
            Due.feed(x, "aaaa bbbb cccc");
            due.is("nothing is left of the longer one", x.parts(text, 2), 1);
            due.is("another text is as it was", x.parts(7 - text, 2), text == 0 ? 0 : 1);
            x.end(0);
        }
        due.is("keep nothing", x.keep(0), 0);
        due.is("keep no words", Due.keep(x, 7, "?!"), 0);
        Due.feed(x, "aaaa bbbb cccc");
        due.is("nothing is left", x.parts(0, 2), 0);
        due.is("nothing is left", x.parts(7, 2), 0);
    }

    // ---- Promise 6.

    private static void markAnew() {
        DoorGuard x = marking(1);
        due.is("the tape is empty", x.state(3), 0);
        due.is("mark of nothing", x.mark(0), false);
        due.is("mark without a word", Due.mark(x, 0, "%20?"), false);
        due.is("the tape stays", x.state(3), 4);
        x.end(0);
        Due.send(x, 0, 0, 0, "key");
        due.is("the kind is as it was", x.told(0, 4), 1);
        due.is("mark", Due.mark(x, 0, "...Door key"), true);
        due.is("the tape is empty", x.state(3), 0);
        Due.send(x, 0, 0, 0, "key");
        due.is("its first word alone", x.told(1, 4), 0);
        Due.send(x, 0, 0, 0, "door");
        due.is("its first word", x.told(2, 4), 1);
        due.is("the longest mark", Due.mark(x, 0, "b".repeat(300)), true);
        Due.send(x, 0, 0, 0, "B".repeat(300));
        due.is("found", x.told(3, 8), 1);
    }

    // ---- Promises 7 to 9.

    private static void kindsAnew() {
        DoorGuard x = new DoorGuard();
        Due.keep(x, 0, "aaaa bbbb cccc");
        x.rule(0, -1, -1, 0, 1);
        String letter = "key 00000000 aaaa bbbb cccc";
        due.is("near", x.near(0, 0, 3), true);
        Due.send(x, 0, 0, 0, letter);
        due.same("near", Due.findings(x, 0), "13-26:0");
        due.is("count", x.count(0, 1), true);
        Due.send(x, 0, 0, 0, letter);
        due.same("count", Due.findings(x, 1), "4-11:-1");
        due.is("pieces", x.pieces(0, 0, 2, 2, 0), true);
        Due.send(x, 0, 0, 0, letter);
        due.same("pieces", Due.findings(x, 2), "13-21:0 18-26:1");
        due.is("mark", Due.mark(x, 0, "key"), true);
        Due.send(x, 0, 0, 0, letter);
        due.same("mark", Due.findings(x, 3), "0-2:-1");
        due.is("near again", x.near(0, 1, 2), true);
        Due.send(x, 0, 0, 0, letter);
        due.is("near an empty text", x.told(4, 5), -1);
        Due.feed(x, "tape");
        x.near(0, 0, 2);
        x.count(0, 1);
        x.pieces(0, 0, 2, 1, 1);
        due.is("these kinds leave the tape", x.state(3), 4);
    }

    // ---- Promise 10.

    private static void allowAndNot() {
        for (int kind = 0; kind < 8; kind++) {
            DoorGuard x = new DoorGuard();
            for (int pair = 0; pair < 100; pair++) {
                due.is("it is not so yet", x.allow(kind, pair / 10, pair % 10, false), false);
                due.is("allow", x.allow(kind, pair / 10, pair % 10, true), true);
            }
            for (int pair = 0; pair < 100; pair++) {
                due.is("it is so", x.allow(kind, pair / 10, pair % 10, true), false);
                due.is("not for another kind", x.allow((kind + 1) % 8, pair / 10, pair % 10, false), false);
                due.is("no more", x.allow(kind, pair / 10, pair % 10, false), true);
            }
        }
    }

    // ---- Promises 11 and 12.

    /** The senders of the rules in order; each rule is told by its sender. */
    private static String order(DoorGuard x) {
        StringBuilder all = new StringBuilder();
        int some = x.state(2);
        x.rule(some, -1, 0, 0, 4);
        for (int i = 0; i < some; i++) {
            all.append(x.quarrel(i, some) / 10);
        }
        x.drop(some);
        return all.toString();
    }

    private static void rulePlaces() {
        DoorGuard x = new DoorGuard();
        due.is("at 0 of none", x.rule(0, 5, 0, 0, 1), 1);
        due.is("at 0", x.rule(0, 3, 0, 0, 1), 2);
        due.is("behind the last", x.rule(2, 7, 0, 0, 1), 3);
        due.is("beyond that", x.rule(4, 8, 0, 0, 1), -1);
        due.is("between", x.rule(1, 4, 0, 0, 1), 4);
        due.is("ahead of the last", x.rule(3, 6, 0, 0, 1), 5);
        due.same("order", order(x), "34567");
    }

    private static void dropPlaces() {
        DoorGuard x = new DoorGuard();
        for (int i = 0; i < 7; i++) {
            x.rule(i, i, 0, 0, 1);
        }
        due.is("behind the last", x.drop(7), false);
        due.is("the last", x.drop(6), true);
        due.is("it is gone", x.drop(6), false);
        due.same("order", order(x), "012345");
        due.is("the first", x.drop(0), true);
        due.same("order", order(x), "12345");
        due.is("one between", x.drop(2), true);
        due.same("order", order(x), "1245");
        for (int i = 3; i >= 0; i--) {
            due.is("drop", x.drop(0), true);
            due.is("rules", x.state(2), i);
        }
        due.is("none is left", x.drop(0), false);
        due.is("the first again", x.rule(0, 9, 0, 0, 1), 1);
    }

    // ---- Promises 13 and 14.

    private static void sendUpToSixty() {
        DoorGuard x = marking(3);
        for (int i = 0; i < 60; i++) {
            due.is("send", Due.send(x, i % 10, 9 - i % 10, i % 3, "key"), i);
            due.is("the tape is empty", x.state(3), 0);
            x.days(1);
        }
        Due.feed(x, "key");
        due.is("the 61st", x.send(0, 0, 0), -1);
        due.is("the tape stays", x.state(3), 3);
        due.is("letters", x.state(1), 60);
        due.is("waiting", x.state(4), 60);
        due.is("the last one's day", x.told(59, 3), 59);
        due.is("the last one's sender", x.told(59, 0), 9);
        due.is("the last one's taker", x.told(59, 1), 0);
        due.is("the last one's way", x.told(59, 2), 2);
        due.is("the last one waits", x.told(59, 6), 1);
        due.is("no letter behind it", x.told(60, 6), -1);
        due.is("the 61st again", x.send(0, 0, 0), -1);
    }

    private static void answerOnce() {
        DoorGuard x = marking(4);
        for (int i = 0; i < 60; i++) {
            Due.send(x, 0, 0, 0, i == 0 || i == 59 ? "key" : "");
        }
        due.is("waiting", x.state(4), 2);
        due.is("no letter of that number", x.answer(60, true), false);
        due.is("one that does not wait", x.answer(58, true), false);
        due.is("the last", x.answer(59, false), true);
        due.is("the first", x.answer(0, true), true);
        for (int i = 0; i < 2; i++) {
            due.is("answered", x.answer(59, i == 0), false);
            due.is("answered", x.answer(0, i == 0), false);
            due.is("the last was ended", x.told(59, 6), 2);
            due.is("the first left", x.told(0, 6), 0);
        }
        due.is("waiting", x.state(4), 0);
        due.is("ended", x.state(6), 1);
    }

    // ---- Promises 15 to 17.

    private static void toldAndAtOfEachLetter() {
        DoorGuard x = marking(2);
        Due.send(x, 9, 9, 2, "key");
        Due.send(x, 0, 0, 0, "");
        for (int what : new int[] {MIN, -1, 9, MAX}) {
            due.is("told(0, " + what + ")", x.told(0, what), -1);
        }
        for (int letter : new int[] {MIN, -1, 2, MAX}) {
            for (int what = -1; what <= 9; what++) {
                due.is("told(" + letter + ", " + what + ")", x.told(letter, what), -1);
            }
            due.is("at(" + letter + ")", x.at(letter, 0, true), -1);
            due.is("at(" + letter + ")", x.at(letter, 0, false), -1);
        }
        int[] places = {MIN, -1, 0, 2, 3, MAX};
        int[] came = {-1, -1, 'k', 'y', -1, -1};
        int[] leaves = {-1, -1, 42, 42, -1, -1};
        for (int i = 0; i < places.length; i++) {
            due.is("at(0, " + places[i] + ", false)", x.at(0, places[i], false), came[i]);
            due.is("at(0, " + places[i] + ", true)", x.at(0, places[i], true), leaves[i]);
            due.is("at of an empty letter", x.at(1, places[i], false), -1);
            due.is("at of an empty letter", x.at(1, places[i], true), -1);
        }
    }

    private static void foundUpToTheLast() {
        DoorGuard x = new DoorGuard();
        Due.keep(x, 0, "aaaa bbbb cccc");
        x.near(0, 0, 2);
        x.rule(0, -1, -1, 0, 0);
        Due.send(x, 0, 0, 0, "aaaa bbbb cccc");
        Due.send(x, 0, 0, 0, "aaaa");
        int[] numbers = {MIN, -1, 0, 1, 2, MAX};
        int[][] want = {{-1, -1, -1}, {-1, -1, -1}, {0, 8, 0}, {5, 13, 1}, {-1, -1, -1}, {-1, -1, -1}};
        for (int i = 0; i < numbers.length; i++) {
            for (int what = 0; what <= 2; what++) {
                due.is("found(0, " + numbers[i] + ", " + what + ")", x.found(0, numbers[i], what), want[i][what]);
                due.is("found in a letter without", x.found(1, numbers[i], what), -1);
            }
        }
        for (int what : new int[] {MIN, -1, 3, MAX}) {
            due.is("found(0, 0, " + what + ")", x.found(0, 0, what), -1);
        }
        for (int letter : new int[] {MIN, -1, 2, MAX}) {
            due.is("found(" + letter + ", 0, 0)", x.found(letter, 0, 0), -1);
        }
    }

    // ---- Promises 18 to 20.

    private static void wordsNumbersAndPartsOfAFullTape() {
        DoorGuard x = new DoorGuard();
        String most = "aaaa ".repeat(60);
        Due.keep(x, 0, most);
        Due.feed(x, most);
        for (int n = 2; n <= 8; n++) {
            due.is("parts by " + n, x.parts(0, n), 61 - n);
        }
        due.is("words", x.words(), 60);
        due.is("numbers", x.numbers(), 0);
        due.is("the tape stays", x.state(3), 300);
        x.end(299);
        due.is("words", x.words(), 60);
        x.end(295);
        due.is("one word less", x.words(), 59);
        due.is("all parts still", x.parts(0, 2), 59);
        x.end(9);
        due.is("a row of two words alone", x.parts(0, 2), 59);
        due.is("no row of three words", x.parts(0, 3), 0);
        x.end(4);
        due.is("no row of two words", x.parts(0, 2), 0);
        x.end(0);
        due.is("no word", x.words(), 0);
        due.is("no part", x.parts(0, 2), 0);
    }

    // ---- Promises 21 and 22.

    private static void trialOfNoneAndOfAll() {
        DoorGuard x = new DoorGuard();
        Due.mark(x, 7, "key");
        due.is("over no letter", x.trial(0, -1, -1, 7, 4), 0);
        due.is("the first of none", x.tried(0, -1, -1, 7, 4, 0), -1);
        for (int i = 0; i < 60; i++) {
            Due.send(x, i % 10, 0, i % 3, "key");
        }
        due.is("over sixty", x.trial(0, -1, -1, 7, 4), 60);
        due.is("the same act", x.trial(0, -1, -1, 7, 0), 0);
        due.is("the first", x.tried(0, -1, -1, 7, 4, 0), 0);
        due.is("the last", x.tried(0, -1, -1, 7, 4, 59), 59);
        due.is("none behind it", x.tried(0, -1, -1, 7, 4, 60), -1);
        due.is("of sender 9", x.trial(0, 9, -1, 7, 1), 6);
        due.is("of sender 9, the last", x.tried(0, 9, -1, 7, 1, 5), 59);
        due.is("of way 2", x.trial(0, -1, 2, 7, 1), 20);
        due.is("of sender 9 and way 2", x.trial(0, 9, 2, 7, 1), 2);
        due.is("a kind without a sort", x.trial(0, -1, -1, 0, 4), 0);
        due.is("it is no rule", x.state(2), 0);
        due.is("none waits", x.state(4), 0);
    }

    private static void trialBesideTwentyRules() {
        DoorGuard x = new DoorGuard();
        Due.mark(x, 0, "key");
        Due.mark(x, 1, "door");
        for (int i = 0; i < 20; i++) {
            x.rule(i, -1, -1, i == 19 ? 0 : 2, 1);
        }
        Due.send(x, 0, 0, 0, "key");
        Due.send(x, 0, 0, 0, "door");
        due.is("a 21st rule", x.rule(20, -1, -1, 1, 4), -1);
        for (int place = 0; place <= 20; place++) {
            due.is("a 21st, ahead of the 20th or not", x.trial(place, -1, -1, 0, 4), place <= 19 ? 1 : 0);
            due.is("a 21st of another kind", x.trial(place, -1, -1, 1, 4), 1);
            due.is("which", x.tried(place, -1, -1, 1, 4, 0), 1);
        }
        for (int place : new int[] {MIN, -1, 21, MAX}) {
            due.is("trial at " + place, x.trial(place, -1, -1, 1, 4), -1);
            due.is("tried at " + place, x.tried(place, -1, -1, 1, 4, 0), -1);
        }
        due.is("there are twenty still", x.state(2), 20);
        Due.send(x, 0, 0, 0, "door");
        due.is("none of the tried ones", x.told(2, 4), 0);
    }

    private static void triedUpToTheLast() {
        DoorGuard x = marking(1);
        String[] letters = {"key", "", "key", "", "key"};
        for (String letter : letters) {
            Due.send(x, 0, 0, 0, letter);
        }
        int[] numbers = {MIN, -1, 0, 1, 2, 3, MAX};
        int[] want = {-1, -1, 0, 2, 4, -1, -1};
        for (int i = 0; i < numbers.length; i++) {
            due.is("tried " + numbers[i], x.tried(0, -1, -1, 0, 2, numbers[i]), want[i]);
        }
    }

    // ---- Promise 23.

    private static void quarrelOfAllPairs() {
        for (int i = 0; i < 44 * 44; i++) {
            int[] one = {i / 44 / 4 - 1, i / 44 % 4 - 1};
            int[] other = {i % 44 / 4 - 1, i % 44 % 4 - 1};
            DoorGuard x = new DoorGuard();
            x.rule(0, one[0], one[1], 0, 0);
            x.rule(1, other[0], other[1], 0, 1);
            int want = -1;
            for (int both = 29; both >= 0; both--) {
                int[] pair = {both / 3, both % 3};
                if (isFor(one, pair) && isFor(other, pair)) {
                    want = 10 * pair[0] + pair[1];
                }
            }
            String rules = one[0] + ", " + one[1] + " and " + other[0] + ", " + other[1];
            due.is("quarrel of " + rules, x.quarrel(0, 1), want);
        }
    }

    private static boolean isFor(int[] rule, int[] pair) {
        return (rule[0] == -1 || rule[0] == pair[0]) && (rule[1] == -1 || rule[1] == pair[1]);
    }

    private static void quarrelOfFirstAndLast() {
        DoorGuard x = new DoorGuard();
        for (int i = 0; i < 20; i++) {
            x.rule(i, i == 19 ? 9 : -1, i == 0 ? 2 : -1, i % 19 == 0 ? 7 : 3, i == 0 ? 0 : 4);
        }
        due.is("the first and the last", x.quarrel(0, 19), 92);
        due.is("the last and the first", x.quarrel(19, 0), 92);
        due.is("one and itself", x.quarrel(19, 19), -1);
        due.is("the same act", x.quarrel(1, 2), -1);
        due.is("another kind", x.quarrel(0, 1), -1);
        for (int place : new int[] {MIN, -1, 20, MAX}) {
            due.is("quarrel(0, " + place + ")", x.quarrel(0, place), -1);
            due.is("quarrel(" + place + ", 19)", x.quarrel(place, 19), -1);
            due.is("quarrel(" + place + ", " + place + ")", x.quarrel(place, place), -1);
        }
    }

    // ---- Promise 24.

    private static void stateOfAll() {
        DoorGuard x = new DoorGuard();
        String[] words = {"told", "asked", "held"};
        for (int i = 0; i < 3; i++) {
            Due.mark(x, i, words[i]);
            x.rule(i, -1, -1, i, new int[] {1, 3, 4}[i]);
        }
        for (int i = 0; i < 60; i++) {
            Due.send(x, 0, 0, 0, i < 20 ? "told" : i < 40 ? "asked" : "held");
        }
        due.is("waiting", x.state(4), 40);
        due.is("told", x.state(5), 20);
        due.is("ended", x.state(6), 0);
        for (int i = 20; i < 60; i++) {
            x.answer(i, i < 25);
        }
        int[] want = {0, 60, 3, 0, 0, 20, 35};
        for (int what = 0; what < want.length; what++) {
            due.is("state(" + what + ")", x.state(what), want[what]);
        }
        for (int what : new int[] {MIN, -1, 7, MAX}) {
            due.is("state(" + what + ")", x.state(what), -1);
        }
    }
}
