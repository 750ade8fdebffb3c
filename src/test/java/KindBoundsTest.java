/** Parts, kinds, rules and acts: each bound that the Terms name for them, at it and on both sides of it. */
public final class KindBoundsTest {
    private static final Due due = new Due();

    public static void main(String[] args) {
        wordsOfAPart();
        fourBytesOrMore();
        partsAreToldByTheirFirstWord();
        mostParts();
        differentParts();
        orderOfWhatIsFound();
        kindsHaveNoSortAtFirst();
        everyKindAndText();
        numbersOfACount();
        piecesOfALetter();
        piecesOfTwoLetters();
        daysOfPieces();
        piecesOfEachRow();
        piecesFarBehindInAText();
        lettersThatPiecesCount();
        nothingFoundIsNoKind();
        allowedPairs();
        firstRuleOfAll();
        sendersAndWaysOfRules();
        everyAct();
        asItWasTold();
        due.finish();
    }

    private static int partsOf(String kept, int n, String tape) {
        DoorGuard x = new DoorGuard();
        Due.keep(x, 0, kept);
        Due.feed(x, tape);
        return x.parts(0, n);
    }

    /** So many words of four bytes, each another, from a first one on. */
    private static String words(int from, int some) {
        StringBuilder all = new StringBuilder();
        for (int i = from; i < from + some; i++) {
            all.append(i == from ? "" : " ").append(String.format("w%03d", i));
        }
        return all.toString();
    }

    // ---- "A PART of a KEPT text by n (2 .. 8) are n of its WORDS in a row, of which one has four bytes or more".

    private static void wordsOfAPart() {
        for (int n = 2; n <= 8; n++) {
            due.is("one word less in the letter", partsOf(words(0, n), n, words(0, n - 1)), 0);
            due.is("as many words", partsOf(words(0, n), n, words(0, n)), 1);
            due.is("one word more in the letter", partsOf(words(0, n), n, words(0, n + 1)), 1);
            due.is("one word less in the text", partsOf(words(0, n - 1), n, words(0, n)), 0);
            due.is("one word more in the text", partsOf(words(0, n + 1), n, words(0, n)), 1);
            due.is("one word more in both", partsOf(words(0, n + 1), n, words(0, n + 1)), 2);
            due.is("the first word is another", partsOf(words(0, n), n, "x" + words(0, n)), 0);
            due.is("the last word is another", partsOf(words(0, n), n, words(0, n) + "x"), 0);
            due.is("an empty tape", partsOf(words(0, n), n, ""), 0);
            due.is("an empty text", partsOf("", n, words(0, n)), 0);
        }
        for (int n : new int[] {Integer.MIN_VALUE, -1, 0, 1, 9, Integer.MAX_VALUE}) {
            due.is("n of " + n, partsOf(words(0, 10), n, words(0, 10)), -1);
        }
    }

    private static void fourBytesOrMore() {
        String[] some = {"abc", "abcd", "abcde"};
        for (int n = 2; n <= 8; n++) {
            for (int place = 0; place < n; place++) {
                for (String one : some) {
                    String row = "a ".repeat(place) + one + " a".repeat(n - 1 - place);
                    due.is("'" + row + "'", partsOf(row, n, row), one.length() >= 4 ? 1 : 0);
                }
            }
        }
        due.is("three bytes, wrapped", partsOf("%61b%2563 a", 2, "abc a"), 0);
        due.is("four bytes, wrapped", partsOf("%61b%2563d a", 2, "abcd a"), 1);
        due.is("a long word behind the row", partsOf("a b cdef", 2, "a b cdef"), 1);
        due.is("a long word ahead of the row", partsOf("cdef a b", 2, "cdef a b"), 1);
    }

    private static void partsAreToldByTheirFirstWord() {
        for (int n = 2; n <= 8; n++) {
            DoorGuard x = new DoorGuard();
            Due.keep(x, 0, words(0, 60));
            x.near(0, 0, n);
            x.rule(0, -1, -1, 0, 1);
            Due.send(x, 0, 0, 0, words(60 - n, n) + ", " + words(0, n));
            due.is("the last part", x.found(0, 0, 2), 60 - n);
            due.is("the first part", x.found(0, 1, 2), 0);
            due.is("no more", x.found(0, 2, 2), -1);
        }
    }

    private static void mostParts() {
        String most = "a b ".repeat(73) + "a cdef";
        DoorGuard x = new DoorGuard();
        due.is("148 words", Due.keep(x, 0, most), 148);
        Due.feed(x, "a cdef");
        due.is("the last of 147 rows", x.parts(0, 2), 1);
        x.near(0, 0, 2);
        x.rule(0, -1, -1, 0, 1);
        x.send(0, 0, 0);
        due.is("its number", x.found(0, 0, 2), 146);
        due.is("59 parts of 60 words", partsOf(words(0, 60), 2, words(0, 60)), 59);
        due.is("53 parts of 60 words", partsOf(words(0, 60), 8, words(0, 60)), 53);
    }

    private static void differentParts() {
        due.is("one part twice in the tape", partsOf("aaaa bbbb", 2, "aaaa bbbb aaaa bbbb"), 1);
        due.is("two parts that are alike", partsOf("aaaa bbbb c aaaa bbbb", 2, "aaaa bbbb"), 2);
        due.is("two of three parts", partsOf("aaaa bbbb cccc dddd", 2, "bbbb cccc dddd"), 2);
    }

    // ---- "FOUND is each PART, wherever it is, told by the letter's WORDS from the left, then by PARTS rising".

    private static void orderOfWhatIsFound() {
        DoorGuard x = new DoorGuard();
        Due.keep(x, 2, "cccc dddd aaaa bbbb cccc dddd");
        x.near(4, 2, 2);
        x.rule(0, -1, -1, 4, 2);
        Due.send(x, 0, 0, 0, "aaaa bbbb. cccc dddd aaaa");
        due.same("found", Due.findings(x, 0), "0-8:2 5-14:3 11-19:0 11-19:4 16-24:1");
        due.same("all blackened, what is between them too", Due.letter(x, 0, true), "*".repeat(25));
    }

    // ---- "KINDS 0 .. 7, each of a sort, none at first".

    private static void kindsHaveNoSortAtFirst() {
        DoorGuard x = new DoorGuard();
        for (int kind = 0; kind < 8; kind++) {
            x.rule(kind, -1, -1, kind, 4);
        }
        Due.send(x, 0, 0, 0, "key 00000000 aaaa bbbb");
        x.send(0, 0, 0);
        for (int letter = 0; letter < 2; letter++) {
            due.is("act", x.told(letter, 4), 0);
            due.is("kind", x.told(letter, 5), -1);
            due.is("found", x.told(letter, 8), 0);
        }
    }

    private static void everyKindAndText() {
        for (int number = 0; number < 8; number++) {
            for (int sort = 0; sort < 4; sort++) {
                DoorGuard x = new DoorGuard();
                Due.keep(x, number, "aaaa bbbb");
                Due.feed(x, "key");
                boolean is = sort == 0 ? x.mark(number) : sort == 1 ? x.near(number, number, 2)
                    : sort == 2 ? x.count(number, 1) : x.pieces(number, number, 2, 1, 0);
                due.is("kind " + number + " of sort " + sort, is, true);
                x.end(0);
                x.rule(0, -1, -1, number, 1);
                x.rule(0, -1, -1, 7 - number, 4);
                Due.send(x, 0, 0, 0, "key 00000000 aaaa bbbb");
                due.is("kind", x.told(0, 5), number);
                due.is("act", x.told(0, 4), 1);
                due.is("found", x.told(0, 8), 1);
                due.is("part", x.found(0, 0, 2), sort == 1 || sort == 3 ? 0 : -1);
            }
        }
    }

    // ---- "COUNT (m, 1 .. 20: FOUND are the NUMBERS, if there are m or more)".

    private static void numbersOfACount() {
        for (int m : new int[] {1, 2, 19, 20}) {
            for (int some = m - 1; some <= m + 1; some++) {
                DoorGuard x = new DoorGuard();
                due.is("count", x.count(0, m), true);
                x.rule(0, -1, -1, 0, 3);
                Due.send(x, 0, 0, 0, "00000000,".repeat(some));
                due.is(some + " of " + m, x.told(0, 4), some >= m ? 3 : 0);
                due.is("found", x.told(0, 8), some >= m ? some : 0);
                due.is("first", x.found(0, 0, 0), some >= m ? 0 : -1);
                due.is("last", x.found(0, some - 1, 1), some >= m ? 9 * some - 2 : -1);
            }
        }
        DoorGuard x = new DoorGuard();
        x.count(0, 20);
        for (int m : new int[] {Integer.MIN_VALUE, -1, 0, 21, Integer.MAX_VALUE}) {
            due.is("count(0, " + m + ")", x.count(0, m), false);
        }
        x.rule(0, -1, -1, 0, 3);
        Due.send(x, 0, 0, 0, "00000000,".repeat(19));
        due.is("it is still 20", x.told(0, 4), 0);
    }

    // ---- "PIECES (a KEPT text, n, m 1 .. 50, DAYS 0 .. 30 ..)".

    private static DoorGuard pieces(int m, int days) {
        DoorGuard x = new DoorGuard();
        Due.keep(x, 0, words(0, 60));
        due.is("pieces", x.pieces(0, 0, 2, m, days), true);
        x.rule(0, -1, -1, 0, 3);
        return x;
    }

    private static void piecesOfALetter() {
        for (int m : new int[] {1, 2, 49, 50}) {
            for (int some = m - 1; some <= m + 1; some++) {
                DoorGuard x = pieces(m, 0);
                Due.send(x, 0, 0, 0, words(0, some + 1));
                due.is(some + " of " + m, x.told(0, 4), some >= m ? 3 : 0);
                due.is("found", x.told(0, 8), some >= m ? some : 0);
            }
        }
        DoorGuard x = pieces(2, 0);
        for (int m : new int[] {Integer.MIN_VALUE, -1, 0, 51, Integer.MAX_VALUE}) {
            due.is("pieces of " + m, x.pieces(0, 0, 2, m, 0), false);
        }
        Due.send(x, 0, 0, 0, words(0, 2));
        due.is("it is still 2", x.told(0, 4), 0);
    }

    private static void piecesOfTwoLetters() {
        for (int some = 24; some <= 26; some++) {
            DoorGuard x = pieces(50, 30);
            Due.send(x, 0, 0, 0, words(0, 26));
            Due.send(x, 0, 1, 1, words(25, some + 1));
            due.is("25 and " + some + " of 50", x.told(1, 4), some >= 25 ? 3 : 0);
            due.is("found in the second alone", x.told(1, 8), some >= 25 ? some : 0);
            due.is("the first of them", x.found(1, 0, 2), some >= 25 ? 25 : -1);
        }
        DoorGuard x = pieces(50, 30);
        Due.send(x, 0, 0, 0, words(0, 27));
        Due.send(x, 0, 1, 1, words(25, 25));
        due.is("26 and 24, one of them in both", x.told(1, 4), 0);
        Due.send(x, 0, 1, 1, words(48, 3));
        due.is("and one more", x.told(2, 4), 3);
    }

    private static void daysOfPieces() {
        for (int days : new int[] {0, 1, 29, 30}) {
            for (int later = Math.max(0, days - 1); later <= days + 1; later++) {
                DoorGuard x = pieces(2, days);
                x.days(7);
                Due.send(x, 0, 0, 0, words(0, 2));
                x.days(later);
                Due.send(x, 0, 0, 0, words(1, 2));
                due.is(later + " days later, of " + days, x.told(1, 4), later <= days ? 3 : 0);
                x.drop(0);
                due.is("tried " + later + " days later", x.trial(0, -1, -1, 0, 4), later <= days ? 1 : 0);
            }
        }
        DoorGuard x = pieces(2, 1);
        for (int days : new int[] {Integer.MIN_VALUE, -1, 31, Integer.MAX_VALUE}) {
            due.is("pieces over " + days + " days", x.pieces(0, 0, 2, 1, days), false);
        }
        Due.send(x, 0, 0, 0, words(0, 2));
        due.is("it is still 2", x.told(0, 4), 0);
    }

    private static void piecesOfEachRow() {
        for (int n = 2; n <= 8; n++) {
            DoorGuard x = new DoorGuard();
            Due.keep(x, 7, words(0, n + 1));
            due.is("pieces by " + n, x.pieces(7, 7, n, 2, 0), true);
            x.rule(0, -1, -1, 7, 3);
            Due.send(x, 0, 0, 0, words(0, n) + ", " + words(1, n - 1));
            due.is("one part, and a row of one word less", x.told(0, 4), 0);
            Due.send(x, 0, 0, 0, words(1, n));
            due.is("the other part", x.told(1, 4), 3);
            due.is("its number", x.found(1, 0, 2), 1);
        }
    }

    private static void piecesFarBehindInAText() {
        StringBuilder kept = new StringBuilder();
        for (int i = 0; i < 130; i++) {
            boolean isLong = i == 1 || i == 63 || i == 64 || i == 65 || i == 127 || i == 128 || i == 129;
            kept.append(isLong ? String.format("w%03d ", i) : "a ");
        }
        String[] letters = {"w001 a", "w063 w064", "w064 w065", "w127 w128", "w128 w129"};
        for (int m = 4; m <= 6; m++) {
            DoorGuard x = new DoorGuard();
            due.is("keep", Due.keep(x, 0, kept.toString()), 130);
            x.pieces(0, 0, 2, m, 0);
            x.rule(0, -1, -1, 0, 3);
            for (int i = 0; i < letters.length; i++) {
                Due.send(x, 0, 0, 0, letters[i]);
                due.is(i + 1 + " of " + m, x.told(i, 4), i + 1 >= m ? 3 : 0);
            }
            Due.feed(x, String.join(" x ", letters));
            due.is("parts", x.parts(0, 2), 5);
            x.end(0);
            Due.feed(x, "w001 a");
            due.is("none of the tape that was", x.parts(0, 2), 1);
            x.send(1, 0, 0);
            due.is("none of another sender's", x.told(5, 4), 0);
            due.is("each of them is counted for its own sender", x.trial(0, -1, -1, 0, 4), 6 - m);
        }
    }

    private static void lettersThatPiecesCount() {
        DoorGuard x = pieces(2, 30);
        Due.send(x, 0, 0, 0, words(0, 2));
        Due.send(x, 9, 0, 0, words(1, 2));
        due.is("another sender's letter is not counted", x.told(1, 4), 0);
        Due.send(x, 0, 0, 0, words(0, 2));
        due.is("the same part once more", x.told(2, 4), 0);
        Due.send(x, 0, 9, 2, words(2, 2));
        due.is("whoever takes it, whatever the way", x.told(3, 4), 3);
        due.is("what came ahead stays let", x.told(0, 4), 0);
        due.same("what comes later is not counted by a trial", x.trial(0, -1, -1, 0, 4) + " "
            + x.tried(0, -1, -1, 0, 4, 0), "1 3");
    }

    // ---- "A letter HAS a KIND if something is FOUND, and the pair .. is not ALLOWED for that KIND".

    private static void nothingFoundIsNoKind() {
        DoorGuard x = pieces(1, 30);
        Due.send(x, 0, 0, 0, words(0, 9));
        Due.send(x, 0, 0, 0, "w000");
        due.is("pieces that came ahead are not enough", x.told(1, 4), 0);
        x.send(0, 0, 0);
        due.is("an empty letter", x.told(2, 4), 0);
    }

    private static void allowedPairs() {
        DoorGuard x = new DoorGuard();
        Due.mark(x, 7, "key");
        x.rule(0, -1, -1, 7, 1);
        due.is("allow", x.allow(7, 0, 9, true), true);
        due.is("allow", x.allow(7, 9, 0, true), true);
        due.is("allow for another kind", x.allow(0, 9, 9, true), true);
        int[][] pairs = {{0, 9, 0}, {9, 0, 0}, {9, 9, 1}, {0, 0, 1}, {0, 8, 1}, {1, 9, 1}, {8, 0, 1}};
        for (int i = 0; i < pairs.length; i++) {
            Due.send(x, pairs[i][0], pairs[i][1], 0, "key");
            due.is("from " + pairs[i][0] + " to " + pairs[i][1], x.told(i, 4), pairs[i][2]);
        }
    }

    // ---- "RULES (20 at most) in order .. dealt with by the first RULE for its sender and way whose KIND it HAS".

    private static void firstRuleOfAll() {
        DoorGuard x = new DoorGuard();
        Due.mark(x, 0, "key");
        Due.mark(x, 1, "door");
        for (int i = 0; i < 19; i++) {
            due.is("rule", x.rule(i, -1, -1, 1, 4), i + 1);
        }
        due.is("the 20th", x.rule(19, -1, -1, 0, 2), 20);
        due.is("the 21st", x.rule(20, -1, -1, 0, 3), -1);
        due.is("the 21st ahead", x.rule(0, -1, -1, 0, 3), -1);
        Due.send(x, 0, 0, 0, "key");
        due.is("dealt with by the 20th", x.told(0, 4), 2);
        Due.send(x, 0, 0, 0, "key door");
        due.is("dealt with by the first", x.told(1, 4), 4);
        due.is("drop the 20th", x.drop(19), true);
        Due.send(x, 0, 0, 0, "key");
        due.is("without one it is let", x.told(2, 4), 0);
        due.is("and has no kind", x.told(2, 5), -1);
        due.is("a 20th ahead of all", x.rule(0, -1, -1, 0, 1), 20);
        Due.send(x, 0, 0, 0, "key door");
        due.is("dealt with by it", x.told(3, 4), 1);
    }

    private static void sendersAndWaysOfRules() {
        for (int i = 0; i < 11 * 4; i++) {
            int sender = i / 4 - 1;
            int way = i % 4 - 1;
            DoorGuard x = new DoorGuard();
            Due.mark(x, 0, "key");
            x.rule(0, sender, way, 0, 1);
            for (int j = 0; j < 30; j++) {
                Due.send(x, j / 3, 0, j % 3, "key");
                boolean isFor = (sender == -1 || sender == j / 3) && (way == -1 || way == j % 3);
                due.is("rule of " + sender + ", " + way + " for " + j / 3 + ", " + j % 3, x.told(j, 4), isFor ? 1 : 0);
            }
        }
    }

    // ---- "an ACT: 0 let, 1 tell, 2 blacken, 3 ask, 4 hold".

    private static void everyAct() {
        for (int act = 0; act <= 4; act++) {
            DoorGuard x = new DoorGuard();
            Due.mark(x, 0, "key");
            x.rule(0, -1, -1, 0, act);
            for (int letter = 0; letter < 3; letter++) {
                Due.send(x, 0, 0, 0, "a key");
                due.is("act", x.told(letter, 4), act);
                due.is("waits", x.told(letter, 6), act >= 3 ? 1 : 0);
                due.same("leaves", Due.letter(x, letter, true), act == 2 ? "a ***" : "a key");
            }
            due.is("answered that it is let", x.answer(0, true), act >= 3);
            due.is("answered that it is ended", x.answer(1, false), act >= 3);
            due.is("it left", x.told(0, 6), 0);
            due.is("it was ended", x.told(1, 6), act >= 3 ? 2 : 0);
            due.is("it waits still", x.told(2, 6), act >= 3 ? 1 : 0);
            for (int letter = 0; letter < 2; letter++) {
                due.is("answered once", x.answer(letter, letter == 1), false);
                due.is("as it was answered", x.told(letter, 6), letter == 1 && act >= 3 ? 2 : 0);
                due.is("its act stays", x.told(letter, 4), act);
                due.same("as it leaves", Due.letter(x, letter, true), act == 2 ? "a ***" : "a key");
            }
            due.is("waiting", x.state(4), act >= 3 ? 1 : 0);
            due.is("told", x.state(5), act == 1 ? 3 : 0);
            due.is("ended", x.state(6), act >= 3 ? 1 : 0);
        }
    }

    // ---- "All is as it was told when a letter came".

    private static void asItWasTold() {
        DoorGuard x = new DoorGuard();
        Due.keep(x, 0, "aaaa bbbb");
        x.near(0, 0, 2);
        x.rule(0, -1, -1, 0, 2);
        Due.send(x, 0, 0, 0, "aaaa bbbb key");
        Due.send(x, 0, 0, 0, "key");
        Due.keep(x, 0, "other text");
        Due.mark(x, 0, "key");
        x.rule(0, -1, -1, 0, 4);
        x.allow(0, 0, 0, true);
        x.days(100);
        due.same("found then", Due.findings(x, 0), "0-8:0");
        due.same("leaves as then", Due.letter(x, 0, true), "********* key");
        due.is("act", x.told(0, 4), 2);
        due.is("it left", x.told(0, 6), 0);
        due.is("day", x.told(0, 3), 0);
        due.is("nothing found then", x.told(1, 8), 0);
        due.is("let then", x.told(1, 4), 0);
        due.is("none waits", x.state(4), 0);
    }
}
