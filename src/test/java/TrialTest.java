/** Promises 21 and 22: a rule tried over the letters that were. */
public final class TrialTest {
    private static final int[] FAR = {Integer.MIN_VALUE, -2, Integer.MAX_VALUE};
    private static final Due due = new Due();

    public static void main(String[] args) {
        bounds();
        twenty();
        places();
        asThingsAreNow();
        piecesOnTheirDays();
        changesNothing();
        due.finish();
    }

    /** The letters that trial and tried tell of, and a check that both agree. */
    private static String tried(DoorGuard x, int place, int sender, int way, int kind, int act) {
        int some = x.trial(place, sender, way, kind, act);
        StringBuilder all = new StringBuilder();
        for (int i = 0; i < some; i++) {
            all.append(x.tried(place, sender, way, kind, act, i)).append(' ');
        }
        due.is("tried behind the last", x.tried(place, sender, way, kind, act, some), -1);
        due.is("tried(-1)", x.tried(place, sender, way, kind, act, -1), -1);
        return all.toString().trim();
    }

    private static DoorGuard guard() {
        DoorGuard x = new DoorGuard();
        Due.mark(x, 0, "key");
        Due.mark(x, 1, "door");
        x.rule(0, -1, -1, 0, 1);
        Due.send(x, 1, 2, 0, "key");
        Due.send(x, 2, 1, 1, "door");
        Due.send(x, 1, 1, 2, "key door");
        Due.send(x, 3, 3, 0, "nothing");
        return x;
    }

    private static void bounds() {
        DoorGuard x = guard();
        for (int far : FAR) {
            int[][] rows = {{far, 0, 0, 0, 0}, {0, far, 0, 0, 0}, {0, 0, far, 0, 0}, {0, 0, 0, far, 0}, {0, 0, 0, 0, far}};
            for (int[] r : rows) {
                due.is("trial", x.trial(r[0], r[1], r[2], r[3], r[4]), -1);
                due.is("tried", x.tried(r[0], r[1], r[2], r[3], r[4], 0), -1);
            }
        }
        int[][] near = {{-1, -1, -1, 1, 4}, {2, -1, -1, 1, 4}, {0, 10, -1, 1, 4}, {0, -1, 3, 1, 4},
            {0, -1, -1, 8, 4}, {0, -1, -1, -1, 4}, {0, -1, -1, 1, 5}, {0, -1, -1, 1, -1}};
        for (int[] r : near) {
            due.is("trial", x.trial(r[0], r[1], r[2], r[3], r[4]), -1);
            due.is("tried", x.tried(r[0], r[1], r[2], r[3], r[4], 0), -1);
        }
        due.is("tried far", x.tried(0, -1, -1, 1, 4, Integer.MAX_VALUE), -1);
        due.is("tried far", x.tried(0, -1, -1, 1, 4, Integer.MIN_VALUE), -1);
    }

    private static void twenty() {
        DoorGuard x = guard();
        for (int i = 1; i < 20; i++) {
            x.rule(i, -1, -1, 5, 2);
        }
        due.is("no rule more", x.rule(20, -1, -1, 1, 4), -1);
        due.same("but a trial", tried(x, 20, -1, -1, 1, 4), "1");
        due.same("ahead of twenty", tried(x, 0, -1, -1, 0, 4), "0 2");
        due.is("not behind the twenty-first", x.trial(21, -1, -1, 1, 4), -1);
    }

    private static void places() {
        DoorGuard x = guard();
        due.same("ahead", tried(x, 0, -1, -1, 1, 4), "1 2");
        due.same("behind", tried(x, 1, -1, -1, 1, 4), "1");
        due.same("one sender", tried(x, 0, 1, -1, 1, 4), "2");
        due.same("one way", tried(x, 0, -1, 1, 1, 4), "1");
        due.same("the same act", tried(x, 0, -1, -1, 0, 1), "");
        due.same("a rule that lets", tried(x, 0, -1, -1, 0, 0), "0 2");
        due.same("the same act by another kind", tried(x, 0, -1, -1, 1, 1), "1");
    }

    private static void asThingsAreNow() {
        DoorGuard x = guard();
        x.drop(0);
        due.same("a rule less", tried(x, 0, -1, -1, 7, 4), "0 2");
        x.allow(1, 2, 1, true);
        due.same("allowed now", tried(x, 0, -1, -1, 1, 4), "0 2");
        Due.mark(x, 1, "nothing");
        due.same("a kind as it is now", tried(x, 0, -1, -1, 1, 4), "0 2 3");
        Due.keep(x, 4, "key door");
        x.near(2, 4, 2);
        due.same("near", tried(x, 0, -1, -1, 2, 1), "0");
        Due.keep(x, 4, "door key");
        due.same("a kept text as it is now", tried(x, 0, -1, -1, 2, 1), "0 2");
        x.count(2, 1);
        due.same("another sort", tried(x, 0, -1, -1, 2, 4), "0 2");
        Due.mark(x, 2, "nothing");
        due.is("tried by a kind as it is now", x.tried(0, -1, -1, 2, 4, 2), 3);
    }

    private static void piecesOnTheirDays() {
        DoorGuard x = new DoorGuard();
        Due.keep(x, 0, "aaaa bbbb cccc dddd");
        Due.send(x, 0, 0, 0, "aaaa bbbb");
        Due.send(x, 1, 0, 0, "cccc dddd");
        x.days(1);
        Due.send(x, 0, 0, 0, "bbbb cccc");
        x.days(2);
        Due.send(x, 0, 0, 0, "cccc dddd");
        Due.send(x, 0, 0, 0, "other");
        x.days(50);
        x.pieces(0, 0, 2, 2, 1);
        due.same("over one day", tried(x, 0, -1, -1, 0, 4), "2");
        x.pieces(0, 0, 2, 2, 2);
        due.same("over two days", tried(x, 0, -1, -1, 0, 4), "2 3");
        x.pieces(0, 0, 2, 3, 2);
        due.same("three over two days", tried(x, 0, -1, -1, 0, 4), "");
        x.pieces(0, 0, 2, 3, 3);
        due.same("three over three days", tried(x, 0, -1, -1, 0, 4), "3");
        x.pieces(0, 0, 2, 1, 0);
        due.same("one is enough", tried(x, 0, -1, -1, 0, 4), "0 1 2 3");
        Due.keep(x, 0, "aaaa bbbb");
        due.same("by the text of now", tried(x, 0, -1, -1, 0, 4), "0");
    }

    private static void changesNothing() {
        DoorGuard x = guard();
        Due.feed(x, "tape");
        x.trial(0, -1, -1, 0, 4);
        x.tried(0, -1, -1, 0, 4, 0);
        due.is("rules", x.state(2), 1);
        due.is("letters that wait", x.state(4), 0);
        due.is("act", x.told(0, 4), 1);
        due.is("tape", x.state(3), 4);
        due.is("the next letter's act", x.told(Due.send(x, 1, 1, 0, " key"), 4), 1);
    }
}
