/** Promises 1 to 4, 18 and 19: a new object, the days, the tape, and what the tape holds. */
public final class TapeTest {
    private static final Due due = new Due();

    public static void main(String[] args) {
        newObject();
        days();
        feed();
        end();
        words();
        unwrapping();
        numbers();
        numbersInRows();
        due.finish();
    }

    private static void newObject() {
        DoorGuard x = new DoorGuard();
        due.is("NONE", DoorGuard.NONE, -1);
        for (int what = 0; what <= 6; what++) {
            due.is("new state(" + what + ")", x.state(what), 0);
        }
        due.is("new words()", x.words(), 0);
        due.is("new numbers()", x.numbers(), 0);
        for (int text = 0; text < 8; text++) {
            due.is("new parts", x.parts(text, 2), 0);
        }
        due.is("new told", x.told(0, 0), -1);
        due.is("new drop", x.drop(0), false);
        due.is("new quarrel", x.quarrel(0, 1), -1);
        due.is("new trial", x.trial(0, -1, -1, 0, 4), 0);
    }

    private static void days() {
        DoorGuard x = new DoorGuard();
        due.is("days(0)", x.days(0), 0);
        due.is("days(-1)", x.days(-1), -1);
        due.is("days(101)", x.days(101), -1);
        due.is("days(MIN)", x.days(Integer.MIN_VALUE), -1);
        due.is("days(MAX)", x.days(Integer.MAX_VALUE), -1);
        for (int i = 1; i <= 9; i++) {
            due.is("days(100)", x.days(100), 100 * i);
        }
        due.is("days(99)", x.days(99), 999);
        due.is("days(2) beyond 1,000", x.days(2), -1);
        due.is("state(0)", x.state(0), 999);
        due.is("days(1) to 1,000", x.days(1), 1000);
        due.is("days(0) on the last", x.days(0), 1000);
        due.is("days(1) on the last", x.days(1), -1);
        due.is("state(0)", x.state(0), 1000);
    }

    private static void feed() {
        DoorGuard x = new DoorGuard();
        due.is("feed zeros", x.feed(0, 0, 0, 0, 0), 0);
        due.is("feed with gaps", x.feed(0x41004200, 0, 0x00000043, 0, 0xff000080), 5);
        due.is("send", x.send(0, 0, 0), 0);
        int[] want = {0x41, 0x42, 0x43, 0xff, 0x80};
        for (int i = 0; i < want.length; i++) {
            due.is("byte " + i, x.at(0, i, false), want[i]);
        }
        int full = 0x61616161;
        for (int i = 1; i <= 15; i++) {
            due.is("feed full", x.feed(full, full, full, full, full), 20 * i);
        }
        due.is("feed beyond", x.feed(0, 0, 0, 0, 1), -1);
        due.is("state(3)", x.state(3), 300);
        due.is("feed nothing to a full tape", x.feed(0, 0, 0, 0, 0), 300);
        due.is("end(298)", x.end(298), true);
        due.is("feed three to 298", x.feed(0x01010100, 0, 0, 0, 0), -1);
        due.is("a refused feed leaves the tape", x.state(3), 298);
        due.is("feed two to 298", x.feed(0, 0x01000000, 0, 0, 0x01), 300);
    }

    private static void end() {
        DoorGuard x = new DoorGuard();
        due.is("end(0) of nothing", x.end(0), true);
        due.is("end(1) of nothing", x.end(1), false);
        Due.feed(x, "one two three");
        due.is("end(-1)", x.end(-1), false);
        due.is("end(14)", x.end(14), false);
        due.is("state(3)", x.state(3), 13);
        due.is("end(13)", x.end(13), true);
        due.is("end(5)", x.end(5), true);
        due.is("state(3)", x.state(3), 5);
        due.is("end(6)", x.end(6), false);
        due.is("words()", x.words(), 2);
        Due.feed(x, "!");
        x.send(0, 0, 0);
        due.same("the first bytes stay", Due.letter(x, 0, false), "one t!");
    }

    private static int wordsOf(String text) {
        DoorGuard x = new DoorGuard();
        Due.feed(x, text);
        int words = x.words();
        due.is("words() leaves the tape", x.state(3), text.length());
        return words;
    }

    private static void words() {
        due.is("words of a", wordsOf("a"), 1);
        due.is("words of signs", wordsOf("/:@[`{ -."), 0);
        due.is("words at the bounds of the signs", wordsOf("0/9:A@Z[a`z{"), 6);
        due.is("words with digits", wordsOf("a1B2 c3"), 2);
        due.is("words beside high bytes", wordsOf("a\u00e9b\u00c1c"), 3);
        due.is("most words", wordsOf("a ".repeat(150)), 150);
        due.is("longest word", wordsOf("a".repeat(300)), 1);
    }

    private static void unwrapping() {
        due.is("%20 parts words", wordsOf("a%20b"), 2);
        due.is("%2520 parts words", wordsOf("a%2520b"), 2);
        due.is("%252520 parts words", wordsOf("a%252520b"), 2);
        due.is("the fourth wrapping stays", wordsOf("a%25252520b"), 2);
        due.is("the third wrapping joins words", wordsOf("x%252541y"), 1);
        due.is("the fourth wrapping does not", wordsOf("x%25252541y"), 2);
        due.is("%41 joins words", wordsOf("x%41y"), 1);
        due.is("hexadecimal digits", wordsOf("x%6ay%4Dz"), 1);
        due.is("the last ones, small and great", wordsOf("x%6fy%6Fz"), 1);
        due.is("the first ones, small and great", wordsOf("x%4ay%4Az%30"), 1);
        due.is("a sign between great and small ones", wordsOf("x%4`y"), 3);
        due.is("no hexadecimal digit", wordsOf("x%4gy"), 2);
        due.is("no hexadecimal digit first", wordsOf("x%g4y"), 2);
        due.is("one digit at the end", wordsOf("x%4"), 2);
        due.is("% at the end", wordsOf("x%"), 1);
        due.is("%% with digits", wordsOf("x%%41"), 2);
        due.is("% made of two wrappings", wordsOf("x%%34%31y"), 1);
        due.is("a made % takes the digits behind it", wordsOf("x%2541y"), 1);
        due.is("a wrapped 0 is no letter", wordsOf("x%00y"), 2);
        due.is("%80 is no letter", wordsOf("x%e1y"), 2);
    }

    private static int numbersOf(String text) {
        DoorGuard x = new DoorGuard();
        Due.feed(x, text);
        int numbers = x.numbers();
        due.is("numbers() again", x.numbers(), numbers);
        due.is("numbers() leaves the tape", x.state(3), text.length());
        return numbers;
    }

    private static void numbers() {
        due.is("sixteen digits", numbersOf("4111111111111111"), 1);
        due.is("sixteen digits, wrong check", numbersOf("4111111111111112"), 0);
        due.is("seven digits", numbersOf("0000000"), 0);
        due.is("eight digits", numbersOf("00000000"), 1);
        due.is("seventeen digits", numbersOf("00000000000000000"), 0);
        due.is("a double of more than 9", numbersOf("00000059"), 1);
        due.is("a double of 10", numbersOf("00000050"), 0);
        due.is("a double of 18", numbersOf("00000091"), 1);
        due.is("a double of 8", numbersOf("00000042"), 1);
        due.is("the last is not doubled", numbersOf("00000005"), 0);
        due.is("the first of nine counts once", numbersOf("900000001"), 1);
        due.is("an odd number of digits", numbersOf("79927398713"), 1);
        due.is("an odd number of digits, wrong", numbersOf("79927398710"), 0);
    }

    private static void numbersInRows() {
        due.is("blanks and hyphens", numbersOf("4111 1111-1111 1111"), 1);
        due.is("one between any two", numbersOf("0 0-0 0-0 0-0 0"), 1);
        due.is("two blanks part rows", numbersOf("4111 1111  1111 1111"), 0);
        due.is("blank and hyphen part rows", numbersOf("00000000 -00000000"), 2);
        due.is("another sign parts rows", numbersOf("00000000.00000000,00000000"), 3);
        due.is("a blank does not part rows", numbersOf("00000000 000000000"), 0);
        due.is("sixteen with a blank", numbersOf("00000000 00000000"), 1);
        due.is("letters beside digits", numbersOf("x00000000y00000000"), 2);
        due.is("a letter behind the first digit", numbersOf("0x0000000"), 0);
        due.is("a letter ahead of the last digit", numbersOf("0000000x0"), 0);
        due.is("signs around", numbersOf("-00000000- "), 1);
        due.is("wrapped digits", numbersOf("0000%30000"), 1);
        due.is("wrapped blank", numbersOf("0000%200000"), 1);
        due.is("twice wrapped hyphen", numbersOf("0000%252D0000"), 1);
        due.is("a number longer by its wrapping's digits", numbersOf("00000000%3"), 1);
        due.is("many", numbersOf("00000000x".repeat(33)), 33);
    }
}
