/**
 * A guard at a house's doors: it finds what letters hold, deals with them by rules, keeps what
 * waits for an answer, and tries a rule over the letters that were.
 */
public final class DoorGuard {
    /** None; any; refused. */
    public static final int NONE = -1;

    private static final int MOST_BYTES = 300;
    private static final int MOST_LETTERS = 60;
    private static final int MOST_RULES = 20;
    private static final int MOST_DAYS_AT_ONCE = 100;
    private static final int LAST_DAY = 1000;
    private static final int PEOPLE = 10;
    private static final int WAYS = 3;
    private static final int TEXTS = 8;
    private static final int KINDS = 8;

    private static final int LEAST_ROW = 2;
    private static final int MOST_ROW = 8;
    private static final int MOST_NUMBERS = 20;
    private static final int MOST_PIECES = 50;
    private static final int MOST_DAYS_BACK = 30;
    private static final int LONG_WORD = 4;
    private static final int LEAST_DIGITS = 8;
    private static final int MOST_DIGITS = 16;
    private static final int TIMES_UNWRAPPED = 3;
    private static final int BLACK = 42;

    private static final int SORT_NONE = 0;
    private static final int SORT_MARK = 1;
    private static final int SORT_NEAR = 2;
    private static final int SORT_COUNT = 3;
    private static final int SORT_PIECES = 4;

    private static final int ACT_LET = 0;
    private static final int ACT_TELL = 1;
    private static final int ACT_BLACKEN = 2;
    private static final int ACT_ASK = 3;
    private static final int ACT_HOLD = 4;

    private static final int FATE_LEFT = 0;
    private static final int FATE_WAITS = 1;
    private static final int FATE_ENDED = 2;

    private int day = 0;
    private final int[] tape = new int[MOST_BYTES];
    private int tapeSize = 0;
    private final Text[] kept = new Text[TEXTS];
    private final Kind[] kinds = new Kind[KINDS];
    private final boolean[] allowed = new boolean[KINDS * PEOPLE * PEOPLE];
    private final RuleRow rules = new RuleRow();
    private final Letter[] letters = new Letter[MOST_LETTERS];
    private int letterCount = 0;

    // Rows that calls use again: what a call makes is never given back.
    private final Text tapeText = new Text(MOST_BYTES);
    private final Findings tapeFindings = new Findings(0);
    private final PartSet partsTogether = new PartSet();
    private final RuleRow trialRules = new RuleRow();

    public DoorGuard() {
        Text empty = new Text(0);
        for (int i = 0; i < TEXTS; i++) {
            kept[i] = empty;
        }
        Kind without = new Kind(SORT_NONE, null, 0, LEAST_ROW, 1, 0);
        for (int i = 0; i < KINDS; i++) {
            kinds[i] = without;
        }
    }

    // ---- The day and the tape.

    public int days(int n) {
        if (!within(n, 0, MOST_DAYS_AT_ONCE) || day + n > LAST_DAY) {
            return NONE;
        }
        day += n;
        return day;
    }

    public int feed(int a, int b, int c, int d, int e) {
        int more = bytesOf(a) + bytesOf(b) + bytesOf(c) + bytesOf(d) + bytesOf(e);
        if (tapeSize + more > MOST_BYTES) {
            return NONE;
        }
        append(a);
        append(b);
        append(c);
        append(d);
        append(e);
        return tapeSize;
    }

    public boolean end(int n) {
        if (!within(n, 0, tapeSize)) {
            return false;
        }
        tapeSize = n;
        return true;
    }

    // ---- Kept texts, kinds, and who is allowed what.

    public int keep(int text) {
        if (!isText(text)) {
            return NONE;
        }
        Text taken = takeTape();
        kept[text] = taken;
        forgetKindsOver(text);
        return taken.wordCount;
    }

    public boolean mark(int kind) {
        if (!isKind(kind) || readTape().wordCount == 0) {
            return false;
        }
        setKind(kind, new Kind(SORT_MARK, takeTape(), 0, LEAST_ROW, 1, 0));
        return true;
    }

    public boolean near(int kind, int text, int n) {
        if (!isKind(kind) || !isText(text) || !isRow(n)) {
            return false;
        }
        setKind(kind, new Kind(SORT_NEAR, null, text, n, 1, 0));
        return true;
    }

    public boolean count(int kind, int m) {
        if (!isKind(kind) || !within(m, 1, MOST_NUMBERS)) {
            return false;
        }
        setKind(kind, new Kind(SORT_COUNT, null, 0, LEAST_ROW, m, 0));
        return true;
    }

    public boolean pieces(int kind, int text, int n, int m, int days) {
        if (!isKind(kind) || !isText(text) || !isRow(n)) {
            return false;
        }
        if (!within(m, 1, MOST_PIECES) || !within(days, 0, MOST_DAYS_BACK)) {
            return false;
        }
        setKind(kind, new Kind(SORT_PIECES, null, text, n, m, days));
        return true;
    }

    public boolean allow(int kind, int sender, int taker, boolean is) {
        if (!isKind(kind) || !isPerson(sender) || !isPerson(taker)) {
            return false;
        }
        int pair = pairOf(kind, sender, taker);
        if (allowed[pair] == is) {
            return false;
        }
        allowed[pair] = is;
        return true;
    }

    // ---- Rules.

    public int rule(int place, int sender, int way, int kind, int act) {
        if (rules.size >= MOST_RULES || !isRule(place, sender, way, kind, act)) {
            return NONE;
        }
        rules.insert(place, new Rule(sender, way, kind, act));
        return rules.size;
    }

    public boolean drop(int place) {
        if (!within(place, 0, rules.size - 1)) {
            return false;
        }
        rules.remove(place);
        return true;
    }

    public int quarrel(int one, int other) {
        Rule a = rules.get(one);
        Rule b = rules.get(other);
        if (a == null || b == null || a.act == b.act || a.kind != b.kind) {
            return NONE;
        }
        int sender = leastShared(a.sender, b.sender);
        int way = leastShared(a.way, b.way);
        if (sender == NONE || way == NONE) {
            return NONE;
        }
        return 10 * sender + way;
    }

    // ---- Letters.

    public int send(int sender, int taker, int way) {
        if (!isPerson(sender) || !isPerson(taker) || !within(way, 0, WAYS - 1)) {
            return NONE;
        }
        if (letterCount >= MOST_LETTERS) {
            return NONE;
        }
        int number = letterCount;
        int[] came = copyOfTape();
        Letter letter = new Letter(sender, taker, way, day, came, takeTape());
        letters[number] = letter;
        letterCount++;
        sightAll();
        deal(letter, firstRule(rules, number));
        return number;
    }

    public boolean answer(int letter, boolean is) {
        Letter asked = letterAt(letter);
        if (asked == null || asked.fate != FATE_WAITS) {
            return false;
        }
        asked.fate = is ? FATE_LEFT : FATE_ENDED;
        return true;
    }

    public int told(int letter, int what) {
        Letter of = letterAt(letter);
        if (of == null) {
            return NONE;
        }
        switch (what) {
            case 0:
                return of.sender;
            case 1:
                return of.taker;
            case 2:
                return of.way;
            case 3:
                return of.day;
            case 4:
                return of.act;
            case 5:
                return of.kind;
            case 6:
                return of.fate;
            case 7:
                return of.came.length;
            case 8:
                return of.findings == null ? 0 : of.findings.count;
            default:
                return NONE;
        }
    }

    public int at(int letter, int i, boolean leaves) {
        Letter of = letterAt(letter);
        if (of == null) {
            return NONE;
        }
        int[] row = leaves ? of.leaving : of.came;
        return within(i, 0, row.length - 1) ? row[i] : NONE;
    }

    public int found(int letter, int i, int what) {
        Letter of = letterAt(letter);
        if (of == null || of.findings == null) {
            return NONE;
        }
        switch (what) {
            case 0:
                return of.findings.firstOf(i);
            case 1:
                return of.findings.lastOf(i);
            case 2:
                return of.findings.partOf(i);
            default:
                return NONE;
        }
    }

    // ---- What the tape holds.

    public int words() {
        return readTape().wordCount;
    }

    public int numbers() {
        tapeFindings.clear();
        readTape().collectNumbers(tapeFindings);
        return tapeFindings.count;
    }

    public int parts(int text, int n) {
        if (!isText(text) || !isRow(n)) {
            return NONE;
        }
        tapeFindings.clear();
        readTape().collectParts(kept[text], n, tapeFindings);
        return tapeFindings.different.size();
    }

    // ---- Trials and the state.

    public int trial(int place, int sender, int way, int kind, int act) {
        if (!setTrial(place, sender, way, kind, act)) {
            return NONE;
        }
        int others = 0;
        for (int number = 0; number < letterCount; number++) {
            if (isOtherByTrial(number)) {
                others++;
            }
        }
        return others;
    }

    public int tried(int place, int sender, int way, int kind, int act, int i) {
        if (!setTrial(place, sender, way, kind, act)) {
            return NONE;
        }
        int others = 0;
        for (int number = 0; number < letterCount; number++) {
            if (isOtherByTrial(number)) {
                if (others == i) {
                    return number;
                }
                others++;
            }
        }
        return NONE;
    }

    public int state(int what) {
        switch (what) {
            case 0:
                return day;
            case 1:
                return letterCount;
            case 2:
                return rules.size;
            case 3:
                return tapeSize;
            case 4:
                return lettersOfFate(FATE_WAITS);
            case 5:
                return lettersThatWereTold();
            case 6:
                return lettersOfFate(FATE_ENDED);
            default:
                return NONE;
        }
    }

    // ---- Bounds.

    private static boolean within(int n, int least, int most) {
        return n >= least && n <= most;
    }

    private static boolean isKind(int kind) {
        return within(kind, 0, KINDS - 1);
    }

    private static boolean isText(int text) {
        return within(text, 0, TEXTS - 1);
    }

    private static boolean isRow(int n) {
        return within(n, LEAST_ROW, MOST_ROW);
    }

    private static boolean isPerson(int person) {
        return within(person, 0, PEOPLE - 1);
    }

    private boolean isRule(int place, int sender, int way, int kind, int act) {
        return within(place, 0, rules.size)
            && within(sender, NONE, PEOPLE - 1)
            && within(way, NONE, WAYS - 1)
            && isKind(kind)
            && within(act, ACT_LET, ACT_HOLD);
    }

    // ---- The tape.

    private static int bytesOf(int number) {
        int some = 0;
        for (int shift = 24; shift >= 0; shift -= 8) {
            if (((number >>> shift) & 255) != 0) {
                some++;
            }
        }
        return some;
    }

    private void append(int number) {
        for (int shift = 24; shift >= 0; shift -= 8) {
            int one = (number >>> shift) & 255;
            if (one != 0 && tapeSize < tape.length) {
                tape[tapeSize] = one;
                tapeSize++;
            }
        }
    }

    private int[] copyOfTape() {
        int[] copy = new int[tapeSize];
        System.arraycopy(tape, 0, copy, 0, tapeSize);
        return copy;
    }

    private Text readTape() {
        tapeText.read(tape, tapeSize);
        return tapeText;
    }

    private Text takeTape() {
        Text taken = new Text(tapeSize);
        taken.read(tape, tapeSize);
        tapeSize = 0;
        return taken;
    }

    // ---- Kinds.

    private static int pairOf(int kind, int sender, int taker) {
        return (kind * PEOPLE + sender) * PEOPLE + taker;
    }

    private void setKind(int number, Kind kind) {
        kinds[number] = kind;
        forgetSights(number);
    }

    private void forgetKindsOver(int text) {
        for (int i = 0; i < KINDS; i++) {
            if (kinds[i].isOver(text)) {
                forgetSights(i);
            }
        }
    }

    private void forgetSights(int kind) {
        for (int i = 0; i < letterCount; i++) {
            letters[i].sighted[kind] = false;
        }
    }

    /** Looks again wherever a kind or its text has changed since a letter was looked at. */
    private void sightAll() {
        for (int i = 0; i < letterCount; i++) {
            Letter letter = letters[i];
            for (int kind = 0; kind < KINDS; kind++) {
                if (!letter.sighted[kind]) {
                    letter.sights[kind].clear();
                    collect(kinds[kind], letter.text, letter.sights[kind]);
                    letter.sighted[kind] = true;
                }
            }
        }
    }

    private void collect(Kind kind, Text text, Findings into) {
        switch (kind.sort) {
            case SORT_MARK:
                text.collectAlike(kind.word, into);
                break;
            case SORT_COUNT:
                text.collectNumbers(into);
                break;
            case SORT_NEAR:
            case SORT_PIECES:
                text.collectParts(kept[kind.text], kind.row, into);
                break;
            default:
                break;
        }
    }

    private boolean has(int number, int kind) {
        Letter letter = letters[number];
        if (allowed[pairOf(kind, letter.sender, letter.taker)]) {
            return false;
        }
        int some = letter.sights[kind].count;
        if (some == 0) {
            return false;
        }
        switch (kinds[kind].sort) {
            case SORT_COUNT:
                return some >= kinds[kind].least;
            case SORT_PIECES:
                return piecesLetOut(number, kind) >= kinds[kind].least;
            default:
                return true;
        }
    }

    private int piecesLetOut(int number, int kind) {
        Letter letter = letters[number];
        partsTogether.clear();
        for (int i = 0; i <= number; i++) {
            Letter other = letters[i];
            if (other.sender == letter.sender && letter.day - other.day <= kinds[kind].daysBack) {
                partsTogether.putAll(other.sights[kind].different);
            }
        }
        return partsTogether.size();
    }

    // ---- Dealing with letters.

    private Letter letterAt(int number) {
        return within(number, 0, letterCount - 1) ? letters[number] : null;
    }

    private Rule firstRule(RuleRow row, int number) {
        Letter letter = letters[number];
        for (int i = 0; i < row.size; i++) {
            Rule rule = row.get(i);
            if (rule != null && rule.isFor(letter) && has(number, rule.kind)) {
                return rule;
            }
        }
        return null;
    }

    private void deal(Letter letter, Rule rule) {
        if (rule == null) {
            return;
        }
        Findings findings = new Findings(letter.sights[rule.kind].count);
        collect(kinds[rule.kind], letter.text, findings);
        letter.act = rule.act;
        letter.kind = rule.kind;
        letter.findings = findings;
        if (rule.act == ACT_BLACKEN) {
            letter.leaving = findings.blackened(letter.came);
        }
        if (rule.act == ACT_ASK || rule.act == ACT_HOLD) {
            letter.fate = FATE_WAITS;
        }
    }

    private boolean setTrial(int place, int sender, int way, int kind, int act) {
        if (!isRule(place, sender, way, kind, act)) {
            return false;
        }
        sightAll();
        trialRules.copyWith(rules, place, new Rule(sender, way, kind, act));
        return true;
    }

    private boolean isOtherByTrial(int number) {
        Rule rule = firstRule(trialRules, number);
        int act = rule == null ? ACT_LET : rule.act;
        return act != letters[number].act;
    }

    private int lettersOfFate(int fate) {
        int some = 0;
        for (int i = 0; i < letterCount; i++) {
            if (letters[i].fate == fate) {
                some++;
            }
        }
        return some;
    }

    private int lettersThatWereTold() {
        int some = 0;
        for (int i = 0; i < letterCount; i++) {
            if (letters[i].act == ACT_TELL) {
                some++;
            }
        }
        return some;
    }

    /** The least number that both mean, where NONE means any from 0 on; NONE if there is none. */
    private static int leastShared(int one, int other) {
        if (one == NONE) {
            return Math.max(other, 0);
        }
        return other == NONE || other == one ? one : NONE;
    }

    /** A text unwrapped: its bytes, where each stood, and its words. */
    private static final class Text {
        private final int[] bytes;
        private final int[] firsts;
        private final int[] lasts;
        private int size = 0;
        private final int[] wordStarts;
        private final int[] wordLengths;
        private final int[] wordHashes;
        private int wordCount = 0;

        Text(int room) {
            int most = Math.max(room, 0);
            bytes = new int[most];
            firsts = new int[most];
            lasts = new int[most];
            int mostWords = (most + 1) / 2;
            wordStarts = new int[mostWords];
            wordLengths = new int[mostWords];
            wordHashes = new int[mostWords];
        }

        void read(int[] source, int length) {
            size = Math.min(Math.min(length, source.length), bytes.length);
            for (int i = 0; i < size; i++) {
                bytes[i] = source[i];
                firsts[i] = i;
                lasts[i] = i;
            }
            for (int i = 0; i < TIMES_UNWRAPPED; i++) {
                unwrapOnce();
            }
            makeSmall();
            splitWords();
        }

        private void unwrapOnce() {
            int from = 0;
            int to = 0;
            while (from < size) {
                int wrapped = wrappedAt(from);
                int width = wrapped == NONE ? 1 : 3;
                bytes[to] = wrapped == NONE ? bytes[from] : wrapped;
                firsts[to] = firsts[from];
                lasts[to] = lasts[from + width - 1];
                from += width;
                to++;
            }
            size = to;
        }

        private int wrappedAt(int i) {
            if (bytes[i] != '%' || i + 2 >= size) {
                return NONE;
            }
            int high = hexOf(bytes[i + 1]);
            int low = hexOf(bytes[i + 2]);
            return high == NONE || low == NONE ? NONE : 16 * high + low;
        }

        private static int hexOf(int one) {
            if (isDigit(one)) {
                return one - '0';
            }
            if (one >= 'a' && one <= 'f') {
                return one - 'a' + 10;
            }
            return one >= 'A' && one <= 'F' ? one - 'A' + 10 : NONE;
        }

        private static boolean isDigit(int one) {
            return one >= '0' && one <= '9';
        }

        private void makeSmall() {
            for (int i = 0; i < size; i++) {
                if (bytes[i] >= 'A' && bytes[i] <= 'Z') {
                    bytes[i] += 'a' - 'A';
                }
            }
        }

        private boolean isOfWord(int i) {
            return isDigit(bytes[i]) || bytes[i] >= 'a' && bytes[i] <= 'z';
        }

        private void splitWords() {
            wordCount = 0;
            int start = 0;
            for (int i = 0; i <= size; i++) {
                if (i == size || !isOfWord(i)) {
                    addWord(start, i - start);
                    start = i + 1;
                }
            }
        }

        private void addWord(int start, int length) {
            if (length < 1 || wordCount >= wordStarts.length) {
                return;
            }
            int hash = 0;
            for (int i = 0; i < length; i++) {
                hash = 31 * hash + bytes[start + i];
            }
            wordStarts[wordCount] = start;
            wordLengths[wordCount] = length;
            wordHashes[wordCount] = hash;
            wordCount++;
        }

        private int placeStart(int word) {
            return firsts[wordStarts[word]];
        }

        private int placeEnd(int word) {
            return lasts[wordStarts[word] + wordLengths[word] - 1];
        }

        private boolean isAlike(int word, Text other, int otherWord) {
            // The hash spares most comparisons of bytes; it never settles that words are alike.
            if (wordHashes[word] != other.wordHashes[otherWord]) {
                return false;
            }
            int length = wordLengths[word];
            if (length != other.wordLengths[otherWord]) {
                return false;
            }
            int start = wordStarts[word];
            int otherStart = other.wordStarts[otherWord];
            for (int i = 0; i < length; i++) {
                if (bytes[start + i] != other.bytes[otherStart + i]) {
                    return false;
                }
            }
            return true;
        }

        private boolean isAlikeRow(int word, Text other, int otherWord, int n) {
            for (int i = 0; i < n; i++) {
                if (!isAlike(word + i, other, otherWord + i)) {
                    return false;
                }
            }
            return true;
        }

        private boolean isPart(int word, int n) {
            for (int i = 0; i < n; i++) {
                if (wordLengths[word + i] >= LONG_WORD) {
                    return true;
                }
            }
            return false;
        }

        /** Collects the words that are alike to the first word of a mark's text. */
        void collectAlike(Text mark, Findings into) {
            if (mark == null || mark.wordCount == 0) {
                return;
            }
            for (int i = 0; i < wordCount; i++) {
                if (isAlike(i, mark, 0)) {
                    into.put(placeStart(i), placeEnd(i), NONE);
                }
            }
        }

        void collectParts(Text whole, int n, Findings into) {
            for (int i = 0; i + n <= wordCount; i++) {
                for (int part = 0; part + n <= whole.wordCount; part++) {
                    if (isAlikeRow(i, whole, part, n) && whole.isPart(part, n)) {
                        into.put(placeStart(i), placeEnd(i + n - 1), part);
                    }
                }
            }
        }

        void collectNumbers(Findings into) {
            int end = NONE;
            for (int i = 0; i < size; i++) {
                if (i > end && isDigit(bytes[i])) {
                    end = endOfDigits(i);
                    if (isNumber(i, end)) {
                        into.put(firsts[i], lasts[end], NONE);
                    }
                }
            }
        }

        private int endOfDigits(int start) {
            int end = start;
            for (int i = start + 1; i < size && i <= end + 2; i++) {
                if (isDigit(bytes[i])) {
                    end = i;
                } else if (bytes[i] != ' ' && bytes[i] != '-') {
                    break;
                }
            }
            return end;
        }

        private boolean isNumber(int start, int end) {
            int digits = 0;
            int sum = 0;
            for (int i = end; i >= start; i--) {
                if (isDigit(bytes[i])) {
                    int digit = bytes[i] - '0';
                    int counted = digits % 2 == 0 ? digit : 2 * digit;
                    sum += counted > 9 ? counted - 9 : counted;
                    digits++;
                }
            }
            return within(digits, LEAST_DIGITS, MOST_DIGITS) && sum % 10 == 0;
        }
    }

    /** What was found, in order: all of it is counted, and its first ones, as room allows, kept. */
    private static final class Findings {
        private final int[] firsts;
        private final int[] lasts;
        private final int[] parts;
        private final PartSet different = new PartSet();
        private int count = 0;

        Findings(int room) {
            int most = Math.max(room, 0);
            firsts = new int[most];
            lasts = new int[most];
            parts = new int[most];
        }

        void clear() {
            count = 0;
            different.clear();
        }

        void put(int first, int last, int part) {
            if (count < firsts.length) {
                firsts[count] = first;
                lasts[count] = last;
                parts[count] = part;
            }
            count++;
            different.put(part);
        }

        private int keptCount() {
            return Math.min(count, firsts.length);
        }

        private boolean isKept(int i) {
            return within(i, 0, keptCount() - 1);
        }

        int firstOf(int i) {
            return isKept(i) ? firsts[i] : NONE;
        }

        int lastOf(int i) {
            return isKept(i) ? lasts[i] : NONE;
        }

        int partOf(int i) {
            return isKept(i) ? parts[i] : NONE;
        }

        int[] blackened(int[] came) {
            int[] leaving = came.clone();
            int some = keptCount();
            for (int i = 0; i < some; i++) {
                for (int j = firsts[i]; j <= lasts[i] && j < leaving.length; j++) {
                    leaving[j] = BLACK;
                }
            }
            return leaving;
        }
    }

    /** A set of parts, each told by the number of its first word (below 192). */
    private static final class PartSet {
        private long low = 0;
        private long middle = 0;
        private long high = 0;

        void clear() {
            low = 0;
            middle = 0;
            high = 0;
        }

        void put(int part) {
            if (part < 0) {
                return;
            }
            long bit = 1L << (part & 63);
            switch (part >> 6) {
                case 0:
                    low |= bit;
                    break;
                case 1:
                    middle |= bit;
                    break;
                case 2:
                    high |= bit;
                    break;
                default:
                    break;
            }
        }

        void putAll(PartSet other) {
            low |= other.low;
            middle |= other.middle;
            high |= other.high;
        }

        int size() {
            return Long.bitCount(low) + Long.bitCount(middle) + Long.bitCount(high);
        }
    }

    private static final class Kind {
        private final int sort;
        private final Text word;
        private final int text;
        private final int row;
        private final int least;
        private final int daysBack;

        Kind(int sort, Text word, int text, int row, int least, int daysBack) {
            this.sort = sort;
            this.word = word;
            this.text = text;
            this.row = row;
            this.least = least;
            this.daysBack = daysBack;
        }

        boolean isOver(int keptText) {
            return (sort == SORT_NEAR || sort == SORT_PIECES) && text == keptText;
        }
    }

    private static final class Rule {
        private final int sender;
        private final int way;
        private final int kind;
        private final int act;

        Rule(int sender, int way, int kind, int act) {
            this.sender = sender;
            this.way = way;
            this.kind = kind;
            this.act = act;
        }

        boolean isFor(Letter letter) {
            return (sender == NONE || sender == letter.sender) && (way == NONE || way == letter.way);
        }
    }

    /** Rules in order, with room for one more than there may be: the one that is tried. */
    private static final class RuleRow {
        private final Rule[] row = new Rule[MOST_RULES + 1];
        private int size = 0;

        Rule get(int place) {
            return within(place, 0, size - 1) ? row[place] : null;
        }

        void insert(int place, Rule rule) {
            if (size >= row.length || !within(place, 0, size)) {
                return;
            }
            for (int i = size; i > place; i--) {
                row[i] = row[i - 1];
            }
            row[place] = rule;
            size++;
        }

        void remove(int place) {
            if (!within(place, 0, size - 1)) {
                return;
            }
            for (int i = place; i + 1 < size; i++) {
                row[i] = row[i + 1];
            }
            size--;
        }

        void copyWith(RuleRow other, int place, Rule rule) {
            size = 0;
            for (int i = 0; i < other.size; i++) {
                insert(i, other.row[i]);
            }
            insert(place, rule);
        }
    }

    /** A letter as it came, what was made of it then, and what it holds by the kinds of now. */
    private static final class Letter {
        private final int sender;
        private final int taker;
        private final int way;
        private final int day;
        private final int[] came;
        private final Text text;
        private int act = ACT_LET;
        private int kind = NONE;
        private int fate = FATE_LEFT;
        private Findings findings = null;
        private int[] leaving;
        private final Findings[] sights = new Findings[KINDS];
        private final boolean[] sighted = new boolean[KINDS];

        Letter(int sender, int taker, int way, int day, int[] came, Text text) {
            this.sender = sender;
            this.taker = taker;
            this.way = way;
            this.day = day;
            this.came = came;
            this.text = text;
            this.leaving = came;
            for (int i = 0; i < KINDS; i++) {
                sights[i] = new Findings(0);
            }
        }
    }
}
