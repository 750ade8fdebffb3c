/** One call by its name and its numbers (a boolean counts 1 or 0), so that tests can keep rows of calls. */
record Call(String name, int... args) {
    /** What a call answers that is refused: false of a boolean one, else NONE. */
    int refused() {
        return switch (name) {
            case "end", "mark", "near", "count", "pieces", "allow", "drop", "answer" -> 0;
            default -> DoorGuard.NONE;
        };
    }

    int on(DoorGuard x) {
        int[] a = args;
        return switch (name) {
            case "days" -> x.days(a[0]);
            case "feed" -> x.feed(a[0], a[1], a[2], a[3], a[4]);
            case "end" -> number(x.end(a[0]));
            case "keep" -> x.keep(a[0]);
            case "mark" -> number(x.mark(a[0]));
            case "near" -> number(x.near(a[0], a[1], a[2]));
            case "count" -> number(x.count(a[0], a[1]));
            case "pieces" -> number(x.pieces(a[0], a[1], a[2], a[3], a[4]));
            case "allow" -> number(x.allow(a[0], a[1], a[2], a[3] == 1));
            case "rule" -> x.rule(a[0], a[1], a[2], a[3], a[4]);
            case "drop" -> number(x.drop(a[0]));
            case "send" -> x.send(a[0], a[1], a[2]);
            case "answer" -> number(x.answer(a[0], a[1] == 1));
            default -> lookOn(x);
        };
    }

    private int lookOn(DoorGuard x) {
        int[] a = args;
        return switch (name) {
            case "told" -> x.told(a[0], a[1]);
            case "at" -> x.at(a[0], a[1], a[2] == 1);
            case "found" -> x.found(a[0], a[1], a[2]);
            case "words" -> x.words();
            case "numbers" -> x.numbers();
            case "parts" -> x.parts(a[0], a[1]);
            case "trial" -> x.trial(a[0], a[1], a[2], a[3], a[4]);
            case "tried" -> x.tried(a[0], a[1], a[2], a[3], a[4], a[5]);
            case "quarrel" -> x.quarrel(a[0], a[1]);
            case "state" -> x.state(a[0]);
            default -> throw new IllegalArgumentException(name);
        };
    }

    private static int number(boolean is) {
        return is ? 1 : 0;
    }

    /** The same call with another number at one place. */
    Call with(int place, int number) {
        int[] other = args.clone();
        other[place] = number;
        return new Call(name, other);
    }

    @Override
    public String toString() {
        StringBuilder all = new StringBuilder(name).append('(');
        for (int i = 0; i < args.length; i++) {
            all.append(i == 0 ? "" : ", ").append(args[i]);
        }
        return all.append(')').toString();
    }
}
