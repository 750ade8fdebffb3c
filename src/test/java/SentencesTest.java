import java.util.ArrayList;
import java.util.List;

/**
 * The document from its first line on: what its sentences say of sorts, acts and calls taken together, where the
 * other tests look at each of them alone. Each test stands beneath the sentence that it looks at.
 */
public final class SentencesTest {
    private static final int MARK = 0;
    private static final int NEAR = 1;
    private static final int COUNT = 2;
    private static final int PIECES = 3;
    /** A letter that holds something of each sort, and each with a place of its own. */
    private static final String ALL = "key, 00000000; Aaaa%20bbbb.";
    private static final String[] BLACKENED = {"***, 00000000; Aaaa%20bbbb.", "key, 00000000; ***********.",
        "key, ********; Aaaa%20bbbb.", "key, 00000000; ***********."};
    private static final Due due = new Due();

    public static void main(String[] args) {
        wordsAreLongestRows();
        partsAreFoundWhereverTheyAre();
        aPartThatComesTwiceIsOnePiece();
        piecesOfLettersWhateverBecameOfThem();
        piecesOfLettersThatWerePieces();
        piecesOfWhatCameWhereItWasBlackened();
        somethingIsFoundAndThePairIsNotAllowed();
        blackenedOfThatKindAlone();
        waitsTillItIsAnswered();
        laterCallsDoNotChangeALetter();
        laterCallsDoNotChangeAnAnsweredLetter();
        objectsHaveNothingInCommon();
        theTapeStays();
        kindsCanBeToldAgain();
        aKindLeavesTheOthers();
        kindsKeepTheirPairsAndRules();
        everySenderTakerAndWay();
        trialOfAllLetters();
        trialByAnotherActAlone();
        quarrelOfAllActs();
        quarrelOfAllSorts();
        stateOfDaysBefore();
        due.finish();
    }

    /** A guard whose kinds 0 to 3 are of the four sorts. */
    private static DoorGuard ofAllSorts() {
        DoorGuard x = new DoorGuard();
        Due.keep(x, 5, "aaaa bbbb");
        for (int sort = MARK; sort <= PIECES; sort++) {
            due.is("kind " + sort, setKind(x, sort, sort), true);
        }
        return x;
    }

    private static boolean setKind(DoorGuard x, int kind, int sort) {
        switch (sort) {
            case MARK:
                return Due.mark(x, kind, "key");
            case NEAR:
                return x.near(kind, 5, 2);
            case COUNT:
                return x.count(kind, 1);
            default:
                return x.pieces(kind, 5, 2, 1, 3);
        }
    }

    /** All that can be told of a letter. */
    private static String all(DoorGuard x, int letter) {
        StringBuilder all = new StringBuilder();
        for (int what = 0; what <= 8; what++) {
            all.append(x.told(letter, what)).append(' ');
        }
        return all + Due.findings(x, letter) + " " + Due.letter(x, letter, false) + " " + Due.letter(x, letter, true);
    }

    // ---- "WORDS are longest rows of letters and digits".

    private static void wordsAreLongestRows() {
        DoorGuard x = new DoorGuard();
        Due.mark(x, 0, "key");
        x.rule(0, -1, -1, 0, 1);
        Due.send(x, 0, 0, 0, "keykey mykey keys 1key key2 k.ey ke%79s KEY%");
        due.same("not in a longer row", Due.findings(x, 0), "40-42:-1");
    }

    // ---- "NEAR (..: FOUND is each PART, wherever it is ..)".

    private static void partsAreFoundWhereverTheyAre() {
        String[] gaps = {" ", "\n", ".\u00ff-", "%00", "%2520", "%-", " %\u00e9\u00e9% ", "_".repeat(290)};
        for (String gap : gaps) {
            DoorGuard x = ofAllSorts();
            x.rule(0, -1, -1, NEAR, 1);
            Due.send(x, 0, 0, 0, "aaaa" + gap + "bbbb");
            due.same("with '" + gap + "' between", Due.findings(x, 0), "0-" + (gap.length() + 7) + ":0");
        }
        DoorGuard x = ofAllSorts();
        x.rule(0, -1, -1, NEAR, 1);
        Due.send(x, 0, 0, 0, "aaaa bbbb aaaa x bbbb aaaa bbbb");
        due.same("each time it is there", Due.findings(x, 0), "0-8:0 22-30:0");
    }

    // ---- "PIECES (..: if the different PARTS that are in this letter or in other ones .. are m or more)".

    private static DoorGuard ofPieces(int m) {
        DoorGuard x = new DoorGuard();
        Due.keep(x, 0, "aaaa bbbb cccc");
        Due.mark(x, 0, "first");
        x.pieces(1, 0, 2, m, 3);
        return x;
    }

    private static void aPartThatComesTwiceIsOnePiece() {
        DoorGuard x = ofPieces(2);
        x.rule(0, -1, -1, 1, 3);
        Due.send(x, 0, 0, 0, "aaaa bbbb, aaaa bbbb, aaaa bbbb");
        due.is("one part three times", x.told(0, 4), 0);
        Due.send(x, 1, 0, 0, "aaaa bbbb, bbbb cccc");
        due.is("two parts", x.told(1, 4), 3);
        Due.send(x, 1, 0, 0, "aaaa bbbb, aaaa bbbb");
        due.is("all of them are found then, the same one too", x.told(2, 8), 2);
    }

    private static void piecesOfLettersWhateverBecameOfThem() {
        for (int act = 0; act <= 4; act++) {
            for (int answer = -1; answer <= 1; answer++) {
                DoorGuard x = ofPieces(2);
                x.rule(0, -1, -1, 0, act);
                x.rule(1, -1, -1, 1, act == 4 ? 1 : 4);
                Due.send(x, 6, 0, 0, "first aaaa bbbb");
                due.is("act", x.told(0, 4), act);
                if (answer >= 0) {
                    x.answer(0, answer == 1);
                }
                x.days(3);
                Due.send(x, 6, 9, 2, "bbbb cccc");
                String what = "behind one of act " + act + ", answered " + answer;
                due.is(what, x.told(1, 4), act == 4 ? 1 : 4);
                due.is(what + ", tried", x.trial(0, -1, 2, 1, 2), 1);
            }
        }
    }

    private static void piecesOfLettersThatWerePieces() {
        for (int act = 1; act <= 4; act++) {
            DoorGuard x = ofPieces(2);
            x.rule(0, -1, -1, 1, act);
            Due.send(x, 0, 0, 0, "aaaa bbbb cccc");
            due.is("both in one", x.told(0, 4), act);
            Due.send(x, 0, 0, 0, "aaaa bbbb");
            due.is("one, and what was dealt with by that kind", x.told(1, 4), act);
        }
    }

    private static void piecesOfWhatCameWhereItWasBlackened() {
        DoorGuard x = ofPieces(2);
        x.near(0, 0, 3);
        x.rule(0, -1, -1, 0, 2);
        x.rule(1, -1, -1, 1, 4);
        Due.send(x, 0, 0, 0, "aaaa bbbb cccc");
        due.same("nothing of it leaves", Due.letter(x, 0, true), "*".repeat(14));
        Due.send(x, 0, 0, 0, "aaaa bbbb");
        due.is("but its parts came", x.told(1, 4), 4);
    }

    // ---- "A letter HAS a KIND if something is FOUND, and the pair .. is not ALLOWED for that KIND."

    private static void somethingIsFoundAndThePairIsNotAllowed() {
        for (int sort = MARK; sort <= PIECES; sort++) {
            DoorGuard x = ofAllSorts();
            x.rule(0, -1, -1, sort, 1);
            x.allow(sort, 2, 3, true);
            x.allow(7 - sort, 4, 4, true);
            Due.send(x, 2, 3, 0, ALL);
            due.is("allowed for sort " + sort, x.told(0, 5), -1);
            Due.send(x, 4, 4, 0, ALL);
            due.is("allowed for another kind than sort " + sort, x.told(1, 5), sort);
            Due.send(x, 3, 2, 0, ALL);
            due.is("the other way round", x.told(2, 5), sort);
            Due.send(x, 2, 4, 0, "nothing");
            due.is("nothing is found", x.told(3, 5), -1);
            due.is("allowed in a trial", x.trial(0, 2, -1, sort, 4), 0);
            x.allow(sort, 2, 3, false);
            due.is("no more", x.trial(0, 2, -1, sort, 4), 1);
            Due.send(x, 2, 3, 0, ALL);
            due.is("no more", x.told(4, 5), sort);
        }
    }

    // ---- "Blackened: all bytes of the PLACES of what is FOUND of that KIND become 42 in what leaves."

    private static void blackenedOfThatKindAlone() {
        for (int sort = MARK; sort <= PIECES; sort++) {
            DoorGuard x = ofAllSorts();
            x.rule(0, -1, -1, sort, 2);
            for (int other = MARK; other <= PIECES; other++) {
                x.rule(x.state(2), -1, -1, other, 2);
            }
            Due.send(x, 0, 0, 0, ALL);
            due.same("of sort " + sort, Due.letter(x, 0, true), BLACKENED[sort]);
            due.same("as it came", Due.letter(x, 0, false), ALL);
            due.is("as long as it came", x.told(0, 7), ALL.length());
        }
    }

    // ---- "Asked or held: it WAITS till it is answered: then it is let, or ended."

    private static void waitsTillItIsAnswered() {
        for (int act = 3; act <= 4; act++) {
            for (int sort = MARK; sort <= PIECES; sort++) {
                DoorGuard x = ofAllSorts();
                x.rule(0, -1, -1, sort, act);
                Due.send(x, 0, 0, 0, ALL);
                Due.send(x, 0, 0, 0, ALL);
                for (int days = 0; days < 1000; days += 100) {
                    x.days(100);
                }
                due.is("it waits, however long", x.told(0, 6) + x.told(1, 6), 2);
                String before = all(x, 0);
                due.is("let", x.answer(0, true), true);
                due.same("all but that is as it was", all(x, 0), before.replaceFirst(" 1 27 ", " 0 27 "));
                before = all(x, 1);
                due.is("ended", x.answer(1, false), true);
                due.same("all but that is as it was", all(x, 1), before.replaceFirst(" 1 27 ", " 2 27 "));
            }
        }
    }

    // ---- "All is as it was told when a letter came (later KINDS, KEPT texts and RULES do not change it)."

    /** Each of these changes what the next letter would be, and how a trial ends. */
    private static List<Script> changes() {
        List<Script> all = new ArrayList<>();
        for (int kind = MARK; kind <= PIECES; kind++) {
            all.add(new Script().call("count", kind, 20));
            all.add(new Script().call("count", kind, 1));
            all.add(new Script().text("key").call("mark", kind));
            all.add(new Script().text("nothing").call("mark", kind));
            all.add(new Script().call("near", kind, 5, 2));
            all.add(new Script().call("pieces", kind, 5, 2, 50, 0));
            all.add(new Script().call("allow", kind, 1, 2, 1));
            all.add(new Script().call("rule", 0, -1, -1, kind, 0));
            all.add(new Script().call("rule", 0, -1, -1, kind, 4));
        }
        all.add(new Script().call("keep", 5));
        all.add(new Script().text("x aaaa bbbb aaaa").call("keep", 5));
        all.add(new Script().call("drop", 0));
        all.add(new Script().call("days", 100));
        return all;
    }

    private static void laterCallsDoNotChangeALetter() {
        for (Script change : changes()) {
            for (int sort = MARK; sort <= PIECES; sort++) {
                DoorGuard x = ofAllSorts();
                x.rule(0, -1, -1, sort, 1 + sort);
                Due.send(x, 1, 2, 0, ALL);
                Due.send(x, 1, 2, 0, "nothing");
                String[] before = {all(x, 0), all(x, 1)};
                Script.answers(x, change.calls(), 0);
                // A trial and one more letter make the guard look at all letters anew.
                x.trial(0, -1, -1, sort, 4);
                Due.send(x, 1, 2, 0, ALL);
                due.same("sort " + sort + " behind " + change.calls(), all(x, 0), before[0]);
                due.same("nothing behind " + change.calls(), all(x, 1), before[1]);
            }
        }
    }

    private static void laterCallsDoNotChangeAnAnsweredLetter() {
        for (Script change : changes()) {
            for (int answer = 0; answer <= 1; answer++) {
                DoorGuard x = ofAllSorts();
                x.rule(0, -1, -1, NEAR, 4);
                Due.send(x, 1, 2, 0, ALL);
                Script.answers(x, change.calls(), 0);
                x.trial(0, -1, -1, NEAR, 0);
                due.is("it waits behind " + change.calls(), x.state(4), 1);
                due.is("and is answered", x.answer(0, answer == 1), true);
                due.same("all behind " + change.calls(), all(x, 0), "1 2 0 0 4 1 " + (answer == 1 ? 0 : 2)
                    + " 27 1 15-25:0 " + ALL + " " + ALL);
            }
        }
    }

    // ---- Promise 1: "DAY 0, nothing told", of each object, whatever others were told.

    private static void objectsHaveNothingInCommon() {
        DoorGuard[] both = {new DoorGuard(), new DoorGuard()};
        List<Call> calls = new Script().call("days", 7).text("aaaa bbbb").call("keep", 0).call("near", 0, 0, 2)
            .call("rule", 0, -1, -1, 0, 3).call("allow", 0, 3, 3, 1).letter(1, 1, 1, "aaaa bbbb").text("aaaa%20bbbb!")
            .call("words").call("parts", 0, 2).call("trial", 0, -1, -1, 0, 1).call("send", 3, 3, 0)
            .call("tried", 0, -1, -1, 0, 1, 0).call("answer", 0, 0).call("told", 1, 4).call("state", 6).calls();
        for (Call call : calls) {
            int one = call.on(both[0]);
            due.is("the other's answer to " + call, call.on(both[1]), one);
            due.is("a third one's day", new DoorGuard().state(0), 0);
        }
        DoorGuard third = new DoorGuard();
        Due.feed(third, "aaaa bbbb");
        due.is("a third one's text", third.parts(0, 2), 0);
        due.is("a third one's letter", third.send(1, 1, 1), 0);
        due.is("a third one's act", third.told(0, 4), 0);
    }

    // ---- Promises 3 to 6 and 13: feed, end, keep, mark and send change the TAPE, and no other call does.

    private static void theTapeStays() {
        List<Call> calls = new Script().call("days", 1).call("near", 6, 5, 2).call("count", 6, 1)
            .call("pieces", 6, 5, 2, 1, 1).call("allow", 0, 0, 0, 1).call("rule", 0, 0, 0, 0, 0).call("drop", 0)
            .call("answer", 0, 1).call("answer", 1, 0).call("told", 0, 7).call("at", 0, 0, 1).call("found", 0, 0, 0)
            .call("words").call("numbers").call("parts", 5, 2).call("trial", 0, -1, -1, 0, 1)
            .call("tried", 0, -1, -1, 0, 1, 0).call("quarrel", 0, 1).call("state", 3).calls();
        DoorGuard x = ofAllSorts();
        x.rule(0, -1, -1, MARK, 4);
        x.rule(1, -1, -1, MARK, 1);
        Due.send(x, 0, 0, 0, "a key");
        Due.send(x, 0, 0, 0, "a key");
        Due.feed(x, ALL);
        for (Call call : calls) {
            due.is(call + " is refused", call.on(x) == call.refused(), false);
            due.is("the tape behind " + call, x.state(3), ALL.length());
        }
        due.is("send", x.send(1, 1, 1), 2);
        due.same("the letter", Due.letter(x, 2, false), ALL);
    }

    // ---- Promises 6 to 9: "A KIND is MARK", "NEAR", "COUNT", "PIECES", whatever it was.

    private static void kindsCanBeToldAgain() {
        for (int was = MARK; was <= PIECES; was++) {
            for (int sort = MARK; sort <= PIECES; sort++) {
                DoorGuard x = ofAllSorts();
                x.rule(0, -1, -1, was, 2);
                due.is("sort " + sort + " where it was " + was, setKind(x, was, sort), true);
                due.is("once more", setKind(x, was, sort), true);
                Due.send(x, 0, 0, 0, ALL);
                due.same("of sort " + sort, Due.letter(x, 0, true), BLACKENED[sort]);
            }
        }
    }

    private static void aKindLeavesTheOthers() {
        for (int kind = 0; kind < 8; kind++) {
            for (int sort = MARK; sort <= PIECES; sort++) {
                DoorGuard x = ofAllSorts();
                for (int other = 7; other >= 0; other--) {
                    x.rule(0, other, -1, other, 2);
                }
                setKind(x, kind, sort);
                for (int other = 0; other < 8; other++) {
                    Due.send(x, other, 0, 0, ALL);
                    int now = other == kind ? sort : other;
                    due.same("kind " + other + " behind kind " + kind + " of sort " + sort, Due.letter(x, other, true),
                        now <= PIECES ? BLACKENED[now] : ALL);
                }
            }
        }
    }

    private static void kindsKeepTheirPairsAndRules() {
        for (int sort = MARK; sort <= PIECES; sort++) {
            DoorGuard x = new DoorGuard();
            Due.keep(x, 5, "aaaa bbbb");
            due.is("a rule of a kind without a sort", x.rule(0, -1, -1, 4, 1), 1);
            due.is("a pair of a kind without a sort", x.allow(4, 0, 1, true), true);
            setKind(x, 4, sort);
            due.is("the rule is there", x.state(2), 1);
            due.is("the pair is allowed", x.allow(4, 0, 1, true), false);
            Due.send(x, 0, 1, 0, ALL);
            Due.send(x, 1, 0, 0, ALL);
            due.is("allowed", x.told(0, 4), 0);
            due.is("dealt with by the rule", x.told(1, 4), 1);
        }
    }

    // ---- Promise 13: "sender, taker (0 .. 9), way (0 .. 2)", each with each.

    private static void everySenderTakerAndWay() {
        DoorGuard x = null;
        for (int i = 0; i < 300; i++) {
            x = i % 60 == 0 ? new DoorGuard() : x;
            int letter = x.send(i / 30, i / 3 % 10, i % 3);
            due.is("letter", letter, i % 60);
            due.is("sender", x.told(letter, 0), i / 30);
            due.is("taker", x.told(letter, 1), i / 3 % 10);
            due.is("way", x.told(letter, 2), i % 3);
        }
    }

    // ---- Promise 21: "how many of all letters would be dealt with by another ACT".

    /** Letters of each act, and of acts 3 and 4 one that waits, one that was let and one that was ended. */
    private static DoorGuard ofAllActs() {
        DoorGuard x = new DoorGuard();
        int[] acts = {0, 1, 2, 3, 3, 3, 4, 4, 4};
        Due.mark(x, 7, "key");
        for (int act = 0; act <= 4; act++) {
            Due.mark(x, act, "k" + act);
            x.rule(act, -1, -1, act, act);
        }
        for (int act : acts) {
            Due.send(x, 0, 0, 0, "key k" + act);
        }
        for (int letter = 4; letter <= 8; letter++) {
            if (letter != 6) {
                x.answer(letter, letter % 3 == 1);
            }
        }
        return x;
    }

    private static void trialOfAllLetters() {
        String[] want = {"1 2 3 4 5 6 7 8", "0 2 3 4 5 6 7 8", "0 1 3 4 5 6 7 8", "0 1 2 6 7 8", "0 1 2 3 4 5"};
        for (int act = 0; act <= 4; act++) {
            DoorGuard x = ofAllActs();
            StringBuilder all = new StringBuilder();
            int some = x.trial(0, -1, -1, 7, act);
            for (int i = 0; i < some; i++) {
                all.append(i == 0 ? "" : " ").append(x.tried(0, -1, -1, 7, act, i));
            }
            due.same("a rule of act " + act + " ahead of all", all.toString(), want[act]);
            due.is("behind all it does nothing", x.trial(5, -1, -1, 7, act), 0);
            for (int i = 0; i < 5; i++) {
                x.drop(0);
            }
            due.is("all but the let one would be let", x.trial(0, -1, -1, 6, act), 8);
        }
    }

    private static void trialByAnotherActAlone() {
        for (int act = 0; act <= 4; act++) {
            DoorGuard x = new DoorGuard();
            Due.mark(x, 0, "key");
            Due.mark(x, 1, "door");
            x.rule(0, -1, -1, 0, act);
            Due.send(x, 0, 0, 0, "key door");
            due.is("the same act by another kind", x.trial(0, -1, -1, 1, act), 0);
            due.is("another act by the same kind", x.trial(0, -1, -1, 0, (act + 1) % 5), 1);
            x.drop(0);
            due.is("dealt with by the tried rule alone", x.trial(0, -1, -1, 1, act), 0);
        }
    }

    // ---- Promise 23: "their ACTS differ, and their KIND is the same".

    private static void quarrelOfAllActs() {
        for (int i = 0; i < 25; i++) {
            DoorGuard x = new DoorGuard();
            x.rule(0, -1, 1, 6, i / 5);
            x.rule(1, 8, -1, 6, i % 5);
            due.is("acts " + i / 5 + " and " + i % 5, x.quarrel(0, 1), i / 5 == i % 5 ? -1 : 81);
            due.is("acts " + i % 5 + " and " + i / 5, x.quarrel(1, 0), i / 5 == i % 5 ? -1 : 81);
        }
    }

    private static void quarrelOfAllSorts() {
        DoorGuard x = ofAllSorts();
        for (int kind = 0; kind < 8; kind++) {
            x.rule(2 * kind, -1, -1, kind, 1);
            x.rule(2 * kind + 1, 3, 2, kind, 4);
        }
        x.allow(0, 3, 0, true);
        for (int i = 0; i < 16 * 16; i++) {
            boolean quarrel = i / 32 == i % 16 / 2 && i / 16 != i % 16;
            due.is("rules " + i / 16 + " and " + i % 16, x.quarrel(i / 16, i % 16), quarrel ? 32 : -1);
        }
    }

    // ---- Promise 24: "letters, .. letters that WAIT, .. that were told, .. that were ended", of all DAYS.

    private static void stateOfDaysBefore() {
        DoorGuard x = ofAllActs();
        for (int days = 0; days <= 1000; days += 100) {
            int[] want = {days, 9, 5, 0, 2, 1, 2};
            for (int what = 0; what < want.length; what++) {
                due.is("state(" + what + ") on day " + days, x.state(what), want[what]);
            }
            x.days(100);
        }
    }
}
