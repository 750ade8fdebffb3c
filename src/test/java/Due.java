import java.nio.charset.StandardCharsets;

/** What every test needs: it counts answers that are not due, and feeds texts. */
final class Due {
    private int wrong = 0;
    private int asked = 0;

    void is(String call, long got, long want) {
        asked++;
        if (got != want) {
            wrong++;
            System.out.println(call + " answered " + got + ", due is " + want);
        }
    }

    void is(String call, boolean got, boolean want) {
        is(call, got ? 1L : 0L, want ? 1L : 0L);
    }

    void finish() {
        System.out.println(wrong == 0 ? asked + " answers are as due" : wrong + " answers are not as due");
        if (wrong != 0) {
            System.exit(1);
        }
    }

    /** Feeds a text of characters 1 to 255; what the last feed answered. */
    static int feed(DoorGuard guard, String text) {
        byte[] bytes = text.getBytes(StandardCharsets.ISO_8859_1);
        // A text that has bytes costs no call but its feeds: an object has 512 calls alone.
        int answer = bytes.length == 0 ? guard.state(3) : DoorGuard.NONE;
        for (int at = 0; at < bytes.length; at += 20) {
            int[] five = new int[5];
            for (int i = 0; i < 20; i++) {
                int one = at + i < bytes.length ? bytes[at + i] & 255 : 0;
                five[i / 4] |= one << (24 - 8 * (i % 4));
            }
            answer = guard.feed(five[0], five[1], five[2], five[3], five[4]);
        }
        return answer;
    }

    static int keep(DoorGuard guard, int text, String what) {
        feed(guard, what);
        return guard.keep(text);
    }

    static boolean mark(DoorGuard guard, int kind, String what) {
        feed(guard, what);
        return guard.mark(kind);
    }

    static int send(DoorGuard guard, int sender, int taker, int way, String what) {
        feed(guard, what);
        return guard.send(sender, taker, way);
    }

    /** A letter as a text, as it came or as it leaves. */
    static String letter(DoorGuard guard, int letter, boolean leaves) {
        StringBuilder all = new StringBuilder();
        int size = guard.told(letter, 7);
        for (int i = 0; i < size; i++) {
            all.append((char) guard.at(letter, i, leaves));
        }
        return all.toString();
    }

    /** What was found in a letter: "first-last:part" of each, in order. */
    static String findings(DoorGuard guard, int letter) {
        StringBuilder all = new StringBuilder();
        for (int i = 0; guard.found(letter, i, 0) != DoorGuard.NONE; i++) {
            all.append(i == 0 ? "" : " ").append(guard.found(letter, i, 0)).append('-')
                .append(guard.found(letter, i, 1)).append(':').append(guard.found(letter, i, 2));
        }
        return all.toString();
    }

    void same(String call, String got, String want) {
        asked++;
        if (!got.equals(want)) {
            wrong++;
            System.out.println(call + " answered '" + got + "', due is '" + want + "'");
        }
    }
}
