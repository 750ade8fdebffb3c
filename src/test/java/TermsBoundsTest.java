/** The document's Terms: each bound that they name, at it and on both sides of it. */
public final class TermsBoundsTest {
    private static final Due due = new Due();

    public static void main(String[] args) {
        bytesOfALetter();
        lastByteOfALetter();
        bytesOfAKeptText();
        timesALetterIsUnwrapped();
        timesAKeptTextIsUnwrapped();
        firstHexadecimalDigit();
        secondHexadecimalDigit();
        percentAtTheEnd();
        goneOverFromTheLeft();
        bytesOfWords();
        greatLettersAreAsSmallOnes();
        mostWords();
        digitsOfANumber();
        bytesBetweenDigits();
        howManyBytesBetweenDigits();
        longestRowOfDigits();
        checkOfEachDigit();
        checkGoesFromTheLastDigit();
        places();
        due.finish();
    }

    /** A guard that blackens all that is like a mark. */
    private static DoorGuard marking(String word) {
        DoorGuard x = new DoorGuard();
        Due.mark(x, 0, word);
        x.rule(0, -1, -1, 0, 2);
        return x;
    }

    private static String foundIn(String mark, String letter) {
        DoorGuard x = marking(mark);
        Due.send(x, 0, 0, 0, letter);
        return Due.findings(x, 0);
    }

    private static int wordsOf(String text) {
        DoorGuard x = new DoorGuard();
        Due.feed(x, text);
        return x.words();
    }

    private static int numbersOf(String text) {
        DoorGuard x = new DoorGuard();
        Due.feed(x, text);
        return x.numbers();
    }

    private static boolean isHexadecimal(int one) {
        return "0123456789abcdefABCDEF".indexOf(one) >= 0;
    }

    private static boolean isLetterOrDigit(int one) {
        return "0123456789abcdefghijklmnopqrstuvwxyzABCDEFGHIJKLMNOPQRSTUVWXYZ".indexOf(one) >= 0;
    }

    // ---- "BYTES of a letter (300 at most)", "KEPT texts (300 bytes at most each; empty at first)".

    private static void bytesOfALetter() {
        for (int size : new int[] {0, 1, 299, 300}) {
            DoorGuard x = new DoorGuard();
            due.is("feed of " + size, Due.feed(x, "a".repeat(size)), size);
            due.is("send", x.send(0, 0, 0), 0);
            due.is("bytes", x.told(0, 7), size);
            due.is("last byte", x.at(0, size - 1, false), size == 0 ? -1 : 'a');
            due.is("no byte behind it", x.at(0, size, false), -1);
            due.is("last byte as it leaves", x.at(0, size - 1, true), size == 0 ? -1 : 'a');
            due.is("no byte behind it as it leaves", x.at(0, size, true), -1);
        }
        DoorGuard x = new DoorGuard();
        due.is("feed of 301", Due.feed(x, "a".repeat(300) + "b"), -1);
        due.is("send", x.send(0, 0, 0), 0);
        due.is("bytes", x.told(0, 7), 300);
        due.is("the last that came", x.at(0, 299, false), 'a');
    }

    private static void lastByteOfALetter() {
        due.same("a word up to byte 299", foundIn("key", "a ".repeat(148) + "_key"), "297-299:-1");
        due.same("a word up to byte 298", foundIn("key", "a ".repeat(148) + "key"), "296-298:-1");
        due.same("wrapped up to byte 299", foundIn("key", "a ".repeat(147) + "_ke%79"), "295-299:-1");
        due.same("a letter that is one word", foundIn("a".repeat(300), "a".repeat(300)), "0-299:-1");
        due.same("a letter of one byte less", foundIn("a".repeat(300), "a".repeat(299)), "");
        due.same("a letter of one byte", foundIn("a", "a"), "0-0:-1");
    }

    private static void bytesOfAKeptText() {
        for (int text = 0; text < 8; text++) {
            DoorGuard x = new DoorGuard();
            Due.feed(x, "ab secret ab secret");
            due.is("empty at first", x.parts(text, 2), 0);
            x.end(0);
            due.is("keep 300 bytes", Due.keep(x, text, "ab ".repeat(98) + "secret"), 99);
            Due.feed(x, "ab secret");
            due.is("up to the last byte", x.parts(text, 2), 1);
        }
        DoorGuard x = new DoorGuard();
        due.is("keep 299 bytes", Due.keep(x, 0, "ab ".repeat(98) + "secre"), 99);
        Due.feed(x, "ab secre");
        due.is("up to the last byte", x.parts(0, 2), 1);
        x.end(0);
        Due.feed(x, "ab ".repeat(98) + "secrets");
        due.is("the 301st did not come", x.state(3), 300);
        due.is("keep what came", x.keep(1), 99);
        Due.feed(x, "ab secret ab secrets");
        due.is("the text without it", x.parts(1, 2), 1);
        due.is("keep nothing", Due.keep(new DoorGuard(), 0, ""), 0);
    }

    // ---- "so three times in all".

    private static void timesALetterIsUnwrapped() {
        String[] wrapped = {"key", "%6bey", "%256bey", "%25256bey", "%2525256bey", "%252525256bey"};
        for (int times = 0; times < wrapped.length; times++) {
            String last = String.valueOf(wrapped[times].length() - 1);
            due.same("wrapped " + times + " times", foundIn("key", wrapped[times]), times <= 3 ? "0-" + last + ":-1" : "");
        }
        due.same("what the fourth time leaves", foundIn("6bey", wrapped[4]), "7-10:-1");
        due.same("what the fifth time leaves", foundIn("256bey", wrapped[5]), "7-12:-1");
    }

    private static void timesAKeptTextIsUnwrapped() {
        String[] gaps = {" ", "%20", "%2520", "%252520", "%25252520"};
        for (int times = 0; times < gaps.length; times++) {
            DoorGuard x = new DoorGuard();
            due.is("words", Due.keep(x, 0, "secret" + gaps[times] + "plan"), 2);
            Due.feed(x, "secret plan");
            due.is("a gap wrapped " + times + " times", x.parts(0, 2), times <= 3 ? 1 : 0);
            x.end(0);
            Due.feed(x, "secret 20plan");
            due.is("what the fourth time leaves", x.parts(0, 2), times <= 3 ? 0 : 1);
        }
        String[] marks = {"key", "%6bey", "%256bey", "%25256bey", "%2525256bey"};
        for (int times = 0; times < marks.length; times++) {
            due.same("a mark wrapped " + times + " times", foundIn(marks[times], "key"), times <= 3 ? "0-2:-1" : "");
        }
    }

    // ---- "a % with two hexadecimal digits (0 .. 9, a .. f, A .. F) behind it".

    private static void firstHexadecimalDigit() {
        for (int one = 1; one <= 255; one++) {
            // The other digit is such that the byte they tell is no letter and no digit.
            String other = one == '4' || one == '6' ? "0" : "f";
            String letter = "x%" + (char) one + other + "y";
            due.same("first digit " + one, foundIn("y", letter), isHexadecimal(one) ? "4-4:-1" : "");
        }
    }

    private static void secondHexadecimalDigit() {
        for (int one = 1; one <= 255; one++) {
            String letter = "x%0" + (char) one + "y";
            String alone = isHexadecimal(one) || !isLetterOrDigit(one) ? "4-4:-1" : "";
            due.same("second digit " + one, foundIn("y", letter), alone);
            due.same("unwrapped by second digit " + one, foundIn("0", letter),
                isHexadecimal(one) || isLetterOrDigit(one) ? "" : "2-2:-1");
        }
    }

    private static void percentAtTheEnd() {
        due.is("x%", wordsOf("x%"), 1);
        due.is("x%4", wordsOf("x%4"), 2);
        due.is("x%41", wordsOf("x%41"), 1);
        due.is("%41", wordsOf("%41"), 1);
        due.is("%", wordsOf("%"), 0);
        due.same("the last three bytes of 300", foundIn("xa", "_".repeat(296) + "x%61"), "296-299:-1");
        due.same("cut by the end", foundIn("6", "_".repeat(297) + "x%6"), "299-299:-1");
    }

    private static void goneOverFromTheLeft() {
        due.same("a made % is not used the same time", foundIn("61", "%25252561"), "7-8:-1");
        due.same("it is the next time", foundIn("a", "%252561"), "0-6:-1");
        due.same("% ahead of a wrapping", foundIn("a", "%%361"), "0-4:-1");
        due.same("both digits wrapped", foundIn("a", "%%36%31"), "0-6:-1");
        due.same("% and a digit wrapped", foundIn("a", "%25%361"), "0-6:-1");
        due.is("a digit behind what they tell stays", wordsOf("%2041"), 1);
    }

    // ---- "WORDS are longest rows of letters and digits, great letters being as small ones".

    private static void bytesOfWords() {
        for (int one = 1; one <= 255; one++) {
            due.is("byte " + one, wordsOf("x" + (char) one + "y"), isLetterOrDigit(one) ? 1 : 2);
        }
        for (int one = 0; one <= 255; one++) {
            String wrapped = String.format("x%%%02xy", one);
            due.is("byte " + wrapped, wordsOf(wrapped), isLetterOrDigit(one) ? 1 : 2);
        }
    }

    private static void greatLettersAreAsSmallOnes() {
        for (char small = 'a'; small <= 'z'; small++) {
            char great = (char) (small - 32);
            due.same("great in the letter " + great, foundIn("x" + small, "X" + great), "0-1:-1");
            due.same("great in the mark " + great, foundIn("X" + great, "x" + small), "0-1:-1");
        }
        for (char digit = '0'; digit <= '9'; digit++) {
            due.same("a digit is as itself alone", foundIn("x" + digit, "x" + digit + " x" + (char) (digit + 32)
                + " x" + (char) (digit - 16)), "0-1:-1");
        }
    }

    private static void mostWords() {
        due.is("no byte", wordsOf(""), 0);
        due.is("one byte", wordsOf("a"), 1);
        due.is("150 words in 299 bytes", wordsOf("a ".repeat(149) + "a"), 150);
        due.is("150 words in 300 bytes", wordsOf("a ".repeat(150)), 150);
        due.is("150 words in 300 bytes", wordsOf(" a".repeat(150)), 150);
        due.is("two words in three bytes are kept", Due.keep(new DoorGuard(), 0, "a b"), 2);
        due.is("150 words in 299 bytes are kept", Due.keep(new DoorGuard(), 0, "a ".repeat(149) + "a"), 150);
        due.same("the last of 150 words", foundIn("b", "a ".repeat(149) + "b"), "298-298:-1");
        due.same("the last of two words", foundIn("b", "a b"), "2-2:-1");
        DoorGuard x = marking("a");
        Due.send(x, 0, 0, 0, "a ".repeat(149) + "a");
        due.is("150 marks", x.told(0, 8), 150);
        due.is("the last one", x.found(0, 149, 1), 298);
        due.is("none behind it", x.found(0, 150, 1), -1);
    }

    // ---- "it is a NUMBER if it has 8 to 16 digits and its CHECK comes out".

    private static void digitsOfANumber() {
        for (int digits = 1; digits <= 34; digits++) {
            int want = digits >= 8 && digits <= 16 ? 1 : 0;
            due.is(digits + " digits", numbersOf("0".repeat(digits)), want);
            due.is(digits + " digits with blanks", numbersOf("0 ".repeat(digits)), want);
            due.is(digits + " digits with wrapped hyphens", numbersOf("0%2D".repeat(digits)), want);
        }
        due.is("300 digits", numbersOf("0".repeat(300)), 0);
        due.is("8 digits at the end of 300 bytes", numbersOf("x".repeat(292) + "00000000"), 1);
        due.is("7 digits at the end of 300 bytes", numbersOf("x".repeat(293) + "0000000"), 0);
        due.is("most numbers", numbersOf("00000000/".repeat(33)), 33);
    }

    // ---- "digits with at most one byte 32 or 45 between two of them, .. from the left each longest such row".

    private static void bytesBetweenDigits() {
        for (int one = 1; one <= 255; one++) {
            boolean isDigit = one >= '0' && one <= '9';
            int want = one == 32 || one == 45 ? 1 : 0;
            if (!isDigit) {
                due.is("byte " + one + " between digits", numbersOf("0000" + (char) one + "0000"), want);
            }
        }
        due.is("byte 0 between digits", numbersOf("0000%000000"), 0);
        due.is("byte 47 is no digit", numbersOf("0000000/"), 0);
        due.is("byte 58 is no digit", numbersOf("0000000:"), 0);
    }

    private static void howManyBytesBetweenDigits() {
        for (String gap : new String[] {"", " ", "-", "%20", "%2d", "%252D"}) {
            due.is("'" + gap + "' between digits", numbersOf("0000" + gap + "0000"), 1);
        }
        for (String gap : new String[] {"  ", "--", " -", "- ", "%20 ", "-%20", "   ", "- -"}) {
            due.is("'" + gap + "' between digits", numbersOf("0000" + gap + "0000"), 0);
            due.is("'" + gap + "' between numbers", numbersOf("00000000" + gap + "00000000"), 2);
        }
        due.is("two ahead and two behind", numbersOf("--00000000--"), 1);
    }

    private static void longestRowOfDigits() {
        due.is("16 and a blank and 1", numbersOf("0000000000000000 0"), 0);
        due.is("8 and a blank and 8", numbersOf("00000000 00000000"), 1);
        due.is("8 and a blank and 9", numbersOf("00000000 000000000"), 0);
        due.is("8 and two blanks and 17 and x and 8", numbersOf("00000000  00000000000000000x00000000"), 2);
        due.is("a check that comes out of a part alone", numbersOf("000000001"), 0);
        DoorGuard x = new DoorGuard();
        x.count(0, 1);
        x.rule(0, -1, -1, 0, 2);
        Due.send(x, 0, 0, 0, "- 0000%200000-  - 00000000 ");
        due.same("from its first digit to its last one", Due.findings(x, 0), "2-12:-1 18-25:-1");
    }

    // ---- "every second one counts double, less 9 if that is more than 9; all together can be divided by 10".

    private static void checkOfEachDigit() {
        int[] doubled = {0, 2, 4, 6, 8, 1, 3, 5, 7, 9};
        for (int pair = 0; pair < 100; pair++) {
            int sum = doubled[pair / 10] + pair % 10;
            String digits = String.format("000000%02d", pair);
            due.is(digits, numbersOf(digits), sum % 10 == 0 ? 1 : 0);
        }
        due.is("a sum of 144", numbersOf("9999999999999999"), 0);
        due.is("a sum of 140", numbersOf("9999999999999995"), 1);
        due.is("a sum of 72", numbersOf("99999999"), 0);
        due.is("a sum of 70", numbersOf("99999997"), 1);
    }

    private static void checkGoesFromTheLastDigit() {
        for (int digits = 8; digits <= 16; digits++) {
            // The first digit counts double where the row has an even number of digits.
            String zeros = "0".repeat(digits - 2);
            due.is("5 first of " + digits, numbersOf("5" + zeros + "9"), digits % 2 == 0 ? 1 : 0);
            due.is("5 first of " + digits, numbersOf("5" + zeros + "5"), digits % 2 == 0 ? 0 : 1);
        }
    }

    // ---- "The PLACE of some of it".

    private static void places() {
        due.same("from the first byte of the first wrapping to the last of the last",
            foundIn("key", " %25256b%65%2579 "), "1-15:-1");
        due.same("the bytes beside it stay apart", foundIn("key", "%20key%20"), "3-5:-1");
        DoorGuard x = marking("key");
        Due.send(x, 0, 0, 0, "key key,%6bey%20key");
        due.same("blackened to the bytes of the places", Due.letter(x, 0, true), "*** ***,*****%20***");
        due.same("as it came", Due.letter(x, 0, false), "key key,%6bey%20key");
        due.is("a blackened byte", x.at(0, 0, true), 42);
    }
}
