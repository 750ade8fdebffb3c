import java.util.ArrayList;
import java.util.HashSet;
import java.util.List;
import java.util.Set;
import java.util.TreeSet;
import java.util.regex.Matcher;
import java.util.regex.Pattern;

/** The document once more, written as plainly as can be: nothing is remembered that can be found anew. */
final class Model {
    private static final Pattern WORD = Pattern.compile("[a-z0-9]+");
    private static final Pattern DIGITS = Pattern.compile("[0-9](?:[ -]?[0-9])*");
    private static final Pattern WRAPPED = Pattern.compile("%([0-9a-fA-F]{2})");

    record Find(int first, int last, int part) { }

    record Rule(int sender, int way, int kind, int act) { }

    record Word(String text, int first, int last) { }

    record Kind(char sort, String word, int text, int n, int m, int days) { }

    /** What a text is when unwrapped, with the place of each of its characters. */
    static final class Plain {
        String text;
        List<int[]> places = new ArrayList<>();

        Plain(String raw) {
            text = raw;
            for (int i = 0; i < raw.length(); i++) {
                places.add(new int[] {i, i});
            }
            once();
            once();
            once();
            StringBuilder small = new StringBuilder();
            for (char c : text.toCharArray()) {
                small.append(c < 128 ? Character.toLowerCase(c) : c);
            }
            text = small.toString();
        }

        private void once() {
            StringBuilder next = new StringBuilder();
            List<int[]> nextPlaces = new ArrayList<>();
            Matcher matcher = WRAPPED.matcher(text);
            int at = 0;
            while (at < text.length()) {
                if (matcher.region(at, text.length()).lookingAt()) {
                    next.append((char) Integer.parseInt(matcher.group(1), 16));
                    nextPlaces.add(new int[] {places.get(at)[0], places.get(at + 2)[1]});
                    at += 3;
                } else {
                    next.append(text.charAt(at));
                    nextPlaces.add(places.get(at));
                    at++;
                }
            }
            text = next.toString();
            places = nextPlaces;
        }

        List<Word> words() {
            List<Word> all = new ArrayList<>();
            Matcher matcher = WORD.matcher(text);
            while (matcher.find()) {
                all.add(new Word(matcher.group(), places.get(matcher.start())[0], places.get(matcher.end() - 1)[1]));
            }
            return all;
        }

        List<Find> numbers() {
            List<Find> all = new ArrayList<>();
            Matcher matcher = DIGITS.matcher(text);
            while (matcher.find()) {
                String digits = matcher.group().replaceAll("[ -]", "");
                if (digits.length() >= 8 && digits.length() <= 16 && checks(digits)) {
                    all.add(new Find(places.get(matcher.start())[0], places.get(matcher.end() - 1)[1], -1));
                }
            }
            return all;
        }

        private static boolean checks(String digits) {
            String doubles = "0246813579";
            int sum = 0;
            for (int i = 0; i < digits.length(); i++) {
                int digit = digits.charAt(digits.length() - 1 - i) - '0';
                sum += i % 2 == 1 ? doubles.charAt(digit) - '0' : digit;
            }
            return sum % 10 == 0;
        }

        List<Find> parts(String kept, int n) {
            List<Find> all = new ArrayList<>();
            List<Word> mine = words();
            List<Word> others = new Plain(kept).words();
            for (int i = 0; i + n <= mine.size(); i++) {
                for (int p = 0; p + n <= others.size(); p++) {
                    boolean alike = true;
                    boolean large = false;
                    for (int j = 0; j < n; j++) {
                        alike &= mine.get(i + j).text().equals(others.get(p + j).text());
                        large |= others.get(p + j).text().length() > 3;
                    }
                    if (alike && large) {
                        all.add(new Find(mine.get(i).first(), mine.get(i + n - 1).last(), p));
                    }
                }
            }
            return all;
        }
    }

    static final class Letter {
        int sender;
        int taker;
        int way;
        int day;
        String came;
        String leaves;
        int act;
        int kind = -1;
        int fate;
        List<Find> found = List.of();
    }

    private int day;
    private String tape = "";
    private final String[] kept = {"", "", "", "", "", "", "", ""};
    private final Kind[] kinds = new Kind[8];
    private final Set<String> allowed = new HashSet<>();
    private final List<Rule> rules = new ArrayList<>();
    private final List<Letter> letters = new ArrayList<>();

    int days(int n) {
        if (n < 0 || n > 100 || day + n > 1000) {
            return -1;
        }
        return day += n;
    }

    int feed(int... five) {
        StringBuilder more = new StringBuilder(tape);
        for (int number : five) {
            for (int i = 3; i >= 0; i--) {
                int one = number >> (8 * i) & 255;
                if (one > 0) {
                    more.append((char) one);
                }
            }
        }
        if (more.length() > 300) {
            return -1;
        }
        tape = more.toString();
        return tape.length();
    }

    boolean end(int n) {
        if (n < 0 || n > tape.length()) {
            return false;
        }
        tape = tape.substring(0, n);
        return true;
    }

    int keep(int text) {
        if (text < 0 || text > 7) {
            return -1;
        }
        int some = words();
        kept[text] = tape;
        tape = "";
        return some;
    }

    boolean mark(int kind) {
        if (kind < 0 || kind > 7 || words() == 0) {
            return false;
        }
        kinds[kind] = new Kind('m', new Plain(tape).words().get(0).text(), 0, 0, 0, 0);
        tape = "";
        return true;
    }

    boolean near(int kind, int text, int n) {
        if (kind < 0 || kind > 7 || parts(text, n) == -1) {
            return false;
        }
        kinds[kind] = new Kind('n', "", text, n, 0, 0);
        return true;
    }

    boolean count(int kind, int m) {
        if (kind < 0 || kind > 7 || m < 1 || m > 20) {
            return false;
        }
        kinds[kind] = new Kind('c', "", 0, 0, m, 0);
        return true;
    }

    boolean pieces(int kind, int text, int n, int m, int days) {
        if (kind < 0 || kind > 7 || parts(text, n) == -1 || m < 1 || m > 50 || days < 0 || days > 30) {
            return false;
        }
        kinds[kind] = new Kind('p', "", text, n, m, days);
        return true;
    }

    boolean allow(int kind, int sender, int taker, boolean is) {
        if (kind < 0 || kind > 7 || sender < 0 || sender > 9 || taker < 0 || taker > 9) {
            return false;
        }
        String pair = kind + " " + sender + " " + taker;
        return is ? allowed.add(pair) : allowed.remove(pair);
    }

    private boolean isRule(int place, Rule r) {
        return place >= 0 && place <= rules.size() && r.sender >= -1 && r.sender <= 9 && r.way >= -1 && r.way <= 2
            && r.kind >= 0 && r.kind <= 7 && r.act >= 0 && r.act <= 4;
    }

    int rule(int place, int sender, int way, int kind, int act) {
        Rule rule = new Rule(sender, way, kind, act);
        if (!isRule(place, rule) || rules.size() == 20) {
            return -1;
        }
        rules.add(place, rule);
        return rules.size();
    }

    boolean drop(int place) {
        if (place < 0 || place >= rules.size()) {
            return false;
        }
        rules.remove(place);
        return true;
    }

    private List<Find> held(Letter letter, Kind kind) {
        Plain plain = new Plain(letter.came);
        List<Find> all = new ArrayList<>();
        if (kind != null && kind.sort == 'm') {
            for (Word word : plain.words()) {
                if (word.text().equals(kind.word)) {
                    all.add(new Find(word.first(), word.last(), -1));
                }
            }
        } else if (kind != null && kind.sort == 'c') {
            all = plain.numbers();
        } else if (kind != null) {
            all = plain.parts(kept[kind.text], kind.n);
        }
        return all;
    }

    private List<Find> foundOf(int number, int k) {
        Letter letter = letters.get(number);
        Kind kind = kinds[k];
        List<Find> all = held(letter, kind);
        if (kind != null && kind.sort == 'c' && all.size() < kind.m) {
            return List.of();
        }
        if (kind != null && kind.sort == 'p') {
            Set<Integer> different = new TreeSet<>();
            for (int i = 0; i <= number; i++) {
                Letter other = letters.get(i);
                if (other.sender == letter.sender && other.day >= letter.day - kind.days) {
                    held(other, kind).forEach(find -> different.add(find.part()));
                }
            }
            return different.size() >= kind.m ? all : List.of();
        }
        return all;
    }

    private Rule ruleOf(int number, List<Rule> row) {
        Letter letter = letters.get(number);
        for (Rule rule : row) {
            boolean isFor = (rule.sender == -1 || rule.sender == letter.sender)
                && (rule.way == -1 || rule.way == letter.way);
            if (isFor && !allowed.contains(rule.kind + " " + letter.sender + " " + letter.taker)
                && !foundOf(number, rule.kind).isEmpty()) {
                return rule;
            }
        }
        return null;
    }

    int send(int sender, int taker, int way) {
        if (sender < 0 || sender > 9 || taker < 0 || taker > 9 || way < 0 || way > 2 || letters.size() == 60) {
            return -1;
        }
        Letter letter = new Letter();
        letter.sender = sender;
        letter.taker = taker;
        letter.way = way;
        letter.day = day;
        letter.came = tape;
        letter.leaves = tape;
        tape = "";
        letters.add(letter);
        int number = letters.size() - 1;
        Rule rule = ruleOf(number, rules);
        if (rule != null) {
            letter.act = rule.act;
            letter.kind = rule.kind;
            letter.found = foundOf(number, rule.kind);
            letter.fate = rule.act >= 3 ? 1 : 0;
            for (Find find : rule.act == 2 ? letter.found : List.<Find>of()) {
                letter.leaves = letter.leaves.substring(0, find.first()) + "*".repeat(find.last() - find.first() + 1)
                    + letter.leaves.substring(find.last() + 1);
            }
        }
        return number;
    }

    private Letter letter(int number) {
        return number < 0 || number >= letters.size() ? null : letters.get(number);
    }

    boolean answer(int number, boolean is) {
        Letter letter = letter(number);
        if (letter == null || letter.fate != 1) {
            return false;
        }
        letter.fate = is ? 0 : 2;
        return true;
    }

    int told(int number, int what) {
        Letter l = letter(number);
        if (l == null || what < 0 || what > 8) {
            return -1;
        }
        return new int[] {l.sender, l.taker, l.way, l.day, l.act, l.kind, l.fate, l.came.length(), l.found.size()}[what];
    }

    int at(int number, int i, boolean leaves) {
        Letter l = letter(number);
        return l == null || i < 0 || i >= l.came.length() ? -1 : (leaves ? l.leaves : l.came).charAt(i);
    }

    int found(int number, int i, int what) {
        Letter l = letter(number);
        if (l == null || i < 0 || i >= l.found.size() || what < 0 || what > 2) {
            return -1;
        }
        Find find = l.found.get(i);
        return what == 0 ? find.first() : what == 1 ? find.last() : find.part();
    }

    int words() {
        return new Plain(tape).words().size();
    }

    int numbers() {
        return new Plain(tape).numbers().size();
    }

    int parts(int text, int n) {
        if (text < 0 || text > 7 || n < 2 || n > 8) {
            return -1;
        }
        Set<Integer> different = new TreeSet<>();
        new Plain(tape).parts(kept[text], n).forEach(find -> different.add(find.part()));
        return different.size();
    }

    private List<Integer> others(int place, Rule rule) {
        List<Rule> row = new ArrayList<>(rules);
        row.add(place, rule);
        List<Integer> all = new ArrayList<>();
        for (int i = 0; i < letters.size(); i++) {
            Rule first = ruleOf(i, row);
            if ((first == null ? 0 : first.act) != letters.get(i).act) {
                all.add(i);
            }
        }
        return all;
    }

    int trial(int place, int sender, int way, int kind, int act) {
        Rule rule = new Rule(sender, way, kind, act);
        return isRule(place, rule) ? others(place, rule).size() : -1;
    }

    int tried(int place, int sender, int way, int kind, int act, int i) {
        Rule rule = new Rule(sender, way, kind, act);
        if (!isRule(place, rule)) {
            return -1;
        }
        List<Integer> all = others(place, rule);
        return i < 0 || i >= all.size() ? -1 : all.get(i);
    }

    int quarrel(int one, int other) {
        if (one < 0 || one >= rules.size() || other < 0 || other >= rules.size()) {
            return -1;
        }
        Rule a = rules.get(one);
        Rule b = rules.get(other);
        for (int sender = 0; sender < 10; sender++) {
            for (int way = 0; way < 3; way++) {
                boolean both = (a.sender == -1 || a.sender == sender) && (b.sender == -1 || b.sender == sender)
                    && (a.way == -1 || a.way == way) && (b.way == -1 || b.way == way);
                if (both && a.act != b.act && a.kind == b.kind) {
                    return 10 * sender + way;
                }
            }
        }
        return -1;
    }

    int state(int what) {
        int waiting = 0;
        int told = 0;
        int ended = 0;
        for (Letter l : letters) {
            waiting += l.fate == 1 ? 1 : 0;
            told += l.act == 1 ? 1 : 0;
            ended += l.fate == 2 ? 1 : 0;
        }
        int[] all = {day, letters.size(), rules.size(), tape.length(), waiting, told, ended};
        return what < 0 || what >= all.length ? -1 : all[what];
    }
}
