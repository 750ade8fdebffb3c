/** Promises 5 to 10 and 20: kept texts, kinds of each sort, who is allowed what, and parts. */
public final class KindsTest {
    private static final int[] FAR = {Integer.MIN_VALUE, -1, Integer.MAX_VALUE};
    private static final Due due = new Due();

    public static void main(String[] args) {
        keep();
        mark();
        wordsOfOneHash();
        near();
        nearBounds();
        count();
        pieces();
        piecesOverDays();
        piecesBounds();
        allow();
        parts();
        kindsChange();
        due.finish();
    }

    private static void keep() {
        DoorGuard x = new DoorGuard();
        due.is("keep nothing", x.keep(0), 0);
        due.is("keep(7)", Due.keep(x, 7, "The%20secret plan"), 3);
        due.is("the tape is empty", x.state(3), 0);
        Due.feed(x, "left alone");
        due.is("keep(8)", x.keep(8), -1);
        for (int far : FAR) {
            due.is("keep(" + far + ")", x.keep(far), -1);
        }
        due.is("a refused keep leaves the tape", x.state(3), 10);
        due.is("keep again", x.keep(7), 2);
        Due.feed(x, "the secret plan left alone");
        due.is("the new text alone is kept", x.parts(7, 2), 1);
    }

    private static void mark() {
        DoorGuard x = new DoorGuard();
        due.is("mark without a word", Due.mark(x, 0, "?!"), false);
        due.is("a refused mark leaves the tape", x.state(3), 2);
        due.is("mark(0)", Due.mark(x, 0, " K%65y1 other"), true);
        due.is("mark empties the tape", x.state(3), 0);
        due.is("mark(8)", Due.mark(x, 8, "word"), false);
        for (int far : FAR) {
            due.is("mark(" + far + ")", x.mark(far), false);
        }
        due.is("mark out of bounds leaves the tape", x.state(3), 4);
        due.is("mark(7)", x.mark(7), true);
        x.rule(0, -1, -1, 0, 2);
        due.is("send", Due.send(x, 0, 0, 0, "KEY1 other key1x kEy%31, key 1 xkey1"), 0);
        due.same("marks", Due.findings(x, 0), "0-3:-1 17-22:-1");
        due.same("blackened", Due.letter(x, 0, true), "**** other key1x ******, key 1 xkey1");
        due.is("send", Due.send(x, 0, 0, 0, "key other"), 1);
        due.is("without the mark", x.told(1, 5), -1);
    }

    /** The program compares words by a hash first: these pairs have the same one. */
    private static void wordsOfOneHash() {
        DoorGuard x = new DoorGuard();
        String[][] pairs = {{"an", "c0"}, {"izyoo4m", "uqgmazdj"}, {"fidps7a", "t5qm37h5"}};
        for (String[] pair : pairs) {
            Due.keep(x, 0, pair[0] + " word");
            Due.feed(x, pair[1] + " word");
            due.is("other words are not alike", x.parts(0, 2), 0);
            x.end(0);
            Due.feed(x, pair[0] + " word");
            due.is("the same words are", x.parts(0, 2), 1);
            x.end(0);
        }
    }

    private static DoorGuard nearGuard(String text, int n, int act) {
        DoorGuard x = new DoorGuard();
        Due.keep(x, 3, text);
        due.is("near", x.near(5, 3, n), true);
        x.rule(0, -1, -1, 5, act);
        return x;
    }

    private static void near() {
        DoorGuard x = nearGuard("the secret plan of the house", 2, 2);
        Due.send(x, 0, 0, 0, "<The>secret;PLAN> of the the House");
        due.same("near", Due.findings(x, 0), "1-10:0 5-15:1 12-19:2 25-33:4");
        due.same("blackened", Due.letter(x, 0, true), "<***************" + "****" + " the *********");
        Due.send(x, 0, 0, 0, "of the of secret house plan");
        due.is("no long word, or not in a row", x.told(1, 4), 0);
        due.is("nothing found", x.told(1, 8), 0);

        x = nearGuard("aaaa b aaaa b aaaa", 2, 1);
        Due.send(x, 0, 0, 0, "aaaa b aaaa");
        due.same("parts alike are told apart", Due.findings(x, 0), "0-5:0 0-5:2 5-10:1 5-10:3");
        due.is("how many", x.told(0, 8), 4);

        x = nearGuard("abc abcd ab abcde", 3, 1);
        Due.send(x, 0, 0, 0, "abc%20abcd%2520ab%252520ABCDE");
        due.same("wrapped places", Due.findings(x, 0), "0-16:0 6-28:1");
        Due.send(x, 0, 0, 0, "abc abcd");
        due.is("a row too short", x.told(1, 4), 0);

        x = nearGuard("a b c d e f g abcd", 8, 4);
        Due.send(x, 0, 0, 0, "x a b c d e f g %61%62%63%64 x");
        due.same("eight in a row", Due.findings(x, 0), "2-27:0");
        x = nearGuard("a b c d e f g abc", 8, 4);
        Due.send(x, 0, 0, 0, "a b c d e f g abc");
        due.is("eight short words", x.told(0, 4), 0);
    }

    private static void nearBounds() {
        DoorGuard x = new DoorGuard();
        for (int far : FAR) {
            due.is("near kind", x.near(far, 0, 2), false);
            due.is("near text", x.near(0, far, 2), false);
            due.is("near n", x.near(0, 0, far), false);
        }
        due.is("near(8, 0, 2)", x.near(8, 0, 2), false);
        due.is("near(0, 8, 2)", x.near(0, 8, 2), false);
        due.is("near(0, 0, 1)", x.near(0, 0, 1), false);
        due.is("near(0, 0, 9)", x.near(0, 0, 9), false);
        due.is("near(0, 0, 2)", x.near(0, 0, 2), true);
        due.is("near(7, 7, 8)", x.near(7, 7, 8), true);
    }

    private static void count() {
        DoorGuard x = new DoorGuard();
        for (int far : FAR) {
            due.is("count kind", x.count(far, 1), false);
            due.is("count m", x.count(0, far), false);
        }
        due.is("count(8, 1)", x.count(8, 1), false);
        due.is("count(0, 0)", x.count(0, 0), false);
        due.is("count(0, 21)", x.count(0, 21), false);
        due.is("count(0, 20)", x.count(0, 20), true);
        due.is("count(0, 1)", x.count(0, 1), true);
        due.is("count(7, 2)", x.count(7, 2), true);
        x.rule(0, -1, -1, 7, 2);
        Due.send(x, 0, 0, 0, "one 00000000, one");
        due.is("one of two", x.told(0, 4), 0);
        due.is("nothing found of one", x.told(0, 8), 0);
        Due.send(x, 0, 0, 0, "4%3111-1111 1111 1111, 00000000, 1111111");
        due.is("two of two", x.told(1, 4), 2);
        due.same("numbers", Due.findings(x, 1), "0-20:-1 23-30:-1");
        due.same("blackened", Due.letter(x, 1, true), "*********************, ********, 1111111");
        Due.send(x, 0, 0, 0, "00000000x00000000x00000000");
        due.is("three of two", x.told(2, 8), 3);
    }

    private static DoorGuard piecesGuard(int m, int days) {
        DoorGuard x = new DoorGuard();
        Due.keep(x, 0, "aaaa bbbb cccc dddd eeee ffff gggg");
        due.is("pieces", x.pieces(1, 0, 2, m, days), true);
        x.rule(0, -1, -1, 1, 3);
        return x;
    }

    private static void pieces() {
        DoorGuard x = piecesGuard(3, 5);
        Due.send(x, 4, 0, 0, "aaaa bbbb");
        Due.send(x, 4, 1, 1, "aaaa bbbb, aaaa bbbb");
        due.is("the same part again", x.told(1, 4), 0);
        Due.send(x, 5, 0, 0, "bbbb cccc dddd");
        due.is("another sender's parts do not count", x.told(2, 4), 0);
        Due.send(x, 4, 2, 2, "bbbb cccc");
        due.is("two of three", x.told(3, 4), 0);
        Due.send(x, 4, 3, 0, "nothing");
        Due.send(x, 4, 3, 0, "cccc dddd");
        due.is("three of three", x.told(5, 4), 3);
        due.same("found here alone", Due.findings(x, 5), "0-8:2");
        Due.send(x, 4, 3, 0, "nothing");
        due.is("nothing found here", x.told(6, 4), 0);
        Due.send(x, 6, 3, 0, "aaaa bbbb cccc dddd");
        due.is("all in one", x.told(7, 8), 3);
        x.keep(2);
        Due.send(x, 4, 3, 0, "aaaa bbbb");
        due.is("one that was there before", x.told(8, 4), 3);
    }

    private static void piecesOverDays() {
        DoorGuard x = piecesGuard(2, 2);
        Due.send(x, 0, 0, 0, "aaaa bbbb");
        x.days(2);
        Due.send(x, 0, 0, 0, "bbbb cccc");
        due.is("two days before", x.told(1, 4), 3);
        x.answer(1, false);
        x.days(2);
        Due.send(x, 0, 0, 0, "cccc dddd");
        due.is("ended letters count, too", x.told(2, 4), 3);
        x.days(3);
        Due.send(x, 0, 0, 0, "dddd eeee");
        due.is("three days before", x.told(3, 4), 0);
        x = piecesGuard(2, 0);
        Due.send(x, 0, 0, 0, "aaaa bbbb");
        Due.send(x, 0, 0, 0, "bbbb cccc");
        due.is("the same day", x.told(1, 4), 3);
        x.days(1);
        Due.send(x, 0, 0, 0, "aaaa bbbb");
        due.is("the day before", x.told(2, 4), 0);
        x.allow(1, 0, 7, true);
        Due.send(x, 0, 7, 0, "cccc dddd");
        due.is("allowed", x.told(3, 4), 0);
        Due.send(x, 0, 0, 0, "aaaa bbbb");
        due.is("what an allowed taker got counts, too", x.told(4, 4), 3);
    }

    private static void piecesBounds() {
        DoorGuard x = new DoorGuard();
        for (int far : FAR) {
            due.is("pieces kind", x.pieces(far, 0, 2, 1, 0), false);
            due.is("pieces text", x.pieces(0, far, 2, 1, 0), false);
            due.is("pieces n", x.pieces(0, 0, far, 1, 0), false);
            due.is("pieces m", x.pieces(0, 0, 2, far, 0), false);
            due.is("pieces days", x.pieces(0, 0, 2, 1, far), false);
        }
        due.is("pieces kind", x.pieces(8, 0, 2, 1, 0), false);
        due.is("pieces text", x.pieces(0, 8, 2, 1, 0), false);
        due.is("pieces n", x.pieces(0, 0, 1, 1, 0), false);
        due.is("pieces n", x.pieces(0, 0, 9, 1, 0), false);
        due.is("pieces m", x.pieces(0, 0, 2, 0, 0), false);
        due.is("pieces m", x.pieces(0, 0, 2, 51, 0), false);
        due.is("pieces days", x.pieces(0, 0, 2, 1, 31), false);
        due.is("pieces least", x.pieces(0, 0, 2, 1, 0), true);
        due.is("pieces most", x.pieces(7, 7, 8, 50, 30), true);
    }

    private static void allow() {
        DoorGuard x = new DoorGuard();
        for (int far : FAR) {
            due.is("allow kind", x.allow(far, 0, 0, true), false);
            due.is("allow sender", x.allow(0, far, 0, true), false);
            due.is("allow taker", x.allow(0, 0, far, true), false);
        }
        due.is("allow kind", x.allow(8, 0, 0, true), false);
        due.is("allow sender", x.allow(0, 10, 0, true), false);
        due.is("allow taker", x.allow(0, 0, 10, true), false);
        due.is("it is not so", x.allow(0, 0, 0, false), false);
        due.is("allow(7, 9, 9)", x.allow(7, 9, 9, true), true);
        due.is("allow(0, 3, 4)", x.allow(0, 3, 4, true), true);
        due.is("it is so", x.allow(0, 3, 4, true), false);
        Due.mark(x, 0, "key");
        Due.mark(x, 1, "key");
        x.rule(0, -1, -1, 0, 4);
        x.rule(1, -1, -1, 1, 1);
        Due.send(x, 3, 4, 0, "key");
        due.is("allowed for one kind, not the other", x.told(0, 5), 1);
        Due.send(x, 4, 3, 0, "key");
        due.is("the pair the other way round", x.told(1, 5), 0);
        due.is("no more", x.allow(0, 3, 4, false), true);
        Due.send(x, 3, 4, 0, "key");
        due.is("allowed no more", x.told(2, 5), 0);
        due.is("what came before stays", x.told(0, 5), 1);
    }

    private static void parts() {
        DoorGuard x = new DoorGuard();
        Due.keep(x, 1, "one three%20one three one");
        Due.feed(x, "One Three one");
        due.is("different parts", x.parts(1, 2), 4);
        due.is("three in a row", x.parts(1, 3), 2);
        due.is("four in a row", x.parts(1, 4), 0);
        x.end(7);
        due.is("of fewer words, different parts are fewer", x.parts(1, 2), 0);
        Due.feed(x, "ee one");
        due.is("different parts again", x.parts(1, 2), 4);
        due.is("another text", x.parts(0, 2), 0);
        due.is("the tape stays", x.state(3), 13);
        for (int far : FAR) {
            due.is("parts text", x.parts(far, 2), -1);
            due.is("parts n", x.parts(1, far), -1);
        }
        due.is("parts text", x.parts(8, 2), -1);
        due.is("parts n", x.parts(1, 1), -1);
        due.is("parts n", x.parts(1, 9), -1);
        due.is("parts n", x.parts(1, 8), 0);
        x.end(0);
        Due.keep(x, 7, "aaaa ".repeat(60));
        Due.feed(x, "aaaa ".repeat(60));
        due.is("all parts", x.parts(7, 2), 59);
        x.end(0);
        Due.keep(x, 6, "a b ".repeat(74) + "cdef");
        Due.feed(x, "b cdef");
        due.is("the last part of 149 words", x.parts(6, 2), 1);
    }

    private static void kindsChange() {
        DoorGuard x = nearGuard("one two three", 2, 1);
        Due.send(x, 0, 0, 0, "two three four five");
        due.is("found", x.told(0, 8), 1);
        Due.keep(x, 3, "four five");
        Due.send(x, 0, 0, 0, "two three four five");
        due.same("by the text of now", Due.findings(x, 1), "10-18:0");
        due.same("by the text of then", Due.findings(x, 0), "0-8:1");
        x.count(5, 1);
        Due.send(x, 0, 0, 0, "four five");
        due.is("another sort", x.told(2, 4), 0);
        due.is("what came before stays", x.told(1, 4), 1);
    }
}
