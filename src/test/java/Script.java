import java.nio.charset.StandardCharsets;
import java.util.ArrayList;
import java.util.List;

/** A row of calls. */
final class Script {
    /** What an object answers behind this many calls is free, so no test may build on it. */
    static final int MOST_CALLS = 512;

    private final List<Call> calls = new ArrayList<>();

    Script call(String name, int... args) {
        calls.add(new Call(name, args));
        return this;
    }

    /** Feeds a text of characters 1 to 255. */
    Script text(String text) {
        byte[] bytes = text.getBytes(StandardCharsets.ISO_8859_1);
        for (int at = 0; at < bytes.length; at += 20) {
            int[] five = new int[5];
            for (int i = 0; i < 20 && at + i < bytes.length; i++) {
                five[i / 4] |= (bytes[at + i] & 255) << (24 - 8 * (i % 4));
            }
            call("feed", five);
        }
        return this;
    }

    Script letter(int sender, int taker, int way, String text) {
        return text(text).call("send", sender, taker, way);
    }

    List<Call> calls() {
        return calls;
    }

    int size() {
        return calls.size();
    }

    /** Makes calls on one object; more of them than an object is used for are a fault of the test. */
    static int[] answers(DoorGuard x, List<Call> row, int callsBefore) {
        if (callsBefore + row.size() > MOST_CALLS) {
            throw new IllegalStateException("a test makes more than " + MOST_CALLS + " calls on one object");
        }
        int[] all = new int[row.size()];
        for (int i = 0; i < all.length; i++) {
            all[i] = row.get(i).on(x);
        }
        return all;
    }
}
