import java.util.ArrayDeque;
import java.util.ArrayList;
import java.util.HashMap;
import java.util.HashSet;
import java.util.List;
import java.util.Map;
import java.util.Set;
import java.util.TreeSet;

/** The document once more, as plainly as can be and by other ways than the class: for comparison alone. */
final class Oracle {
    static final int NONE = -1;
    /** Far more turns than a shortest way can need (32 turns of the bar by 24 words). */
    static final int FAR = 1000;

    static final class Man implements Cloneable {
        String on;
        String beginning;
        String end;
        boolean went;
        int steps;
        int ladders;
        int falls;

        Man copy() {
            try {
                return (Man) clone();
            } catch (CloneNotSupportedException e) {
                throw new AssertionError(e);
            }
        }
    }

    static final class Book {
        List<String> words = new ArrayList<>();
        Man[] men = {new Man(), new Man(), new Man()};
        int place;
        int letter;
        int[] settings = {3, 7};
        int turns;
        int climbs;
        List<Integer> done = new ArrayList<>();

        Book copy() {
            Book b = new Book();
            b.words = new ArrayList<>(words);
            for (int i = 0; i < 3; i++) {
                b.men[i] = men[i].copy();
            }
            b.place = place;
            b.letter = letter;
            b.settings = settings.clone();
            b.turns = turns;
            b.climbs = climbs;
            b.done = new ArrayList<>(done);
            return b;
        }
    }

    Book b = new Book();
    StringBuilder buffer = new StringBuilder();
    ArrayDeque<Book> saved = new ArrayDeque<>();
    Book kept;

    // ---- helpers

    void save() {
        saved.addLast(b.copy());
        if (saved.size() > 6) {
            saved.removeFirst();
        }
    }

    void needIndex(boolean ok) {
        if (!ok) {
            throw new IndexOutOfBoundsException();
        }
    }

    void needArgument(boolean ok) {
        if (!ok) {
            throw new IllegalArgumentException();
        }
    }

    void needState(boolean ok) {
        if (!ok) {
            throw new IllegalStateException();
        }
    }

    boolean isWord(int w) {
        return w >= 0 && w < b.words.size();
    }

    boolean isMan(int c) {
        return c >= 0 && c < 3;
    }

    boolean linked(String v, String w) {
        int differ = 0;
        int by = 0;
        for (int i = 0; i < 4; i++) {
            if (v.charAt(i) != w.charAt(i)) {
                differ++;
                by = Math.abs(v.charAt(i) - w.charAt(i));
            }
        }
        return differ == 1 && by <= b.settings[1];
    }

    /** The bar after some turns, moved step by step: 8 times the place and the letter. */
    int barAfter(int turns) {
        int place = b.place;
        int letter = b.letter;
        for (int i = 0; i < turns; i++) {
            place++;
            if (place == 4) {
                place = 0;
                letter = (letter + b.settings[0]) % 8;
            }
        }
        return 8 * place + letter;
    }

    static boolean hits(int bar, String w) {
        return w.charAt(bar / 8) - 'a' == bar % 8;
    }

    boolean barredNow(String w) {
        return hits(8 * b.place + b.letter, w);
    }

    /** Breadth first over pairs of turn and word, the turns counted on without any period. */
    int fewest(String from, String end, boolean went) {
        Set<String> here = new TreeSet<>();
        here.add(from);
        int bar = 8 * b.place + b.letter;
        for (int t = 0; t < FAR && !here.isEmpty(); t++) {
            Set<String> there = new TreeSet<>(here);
            if (t > 0 || !went) {
                for (String v : here) {
                    for (String w : b.words) {
                        if (linked(v, w) && !hits(bar, w)) {
                            there.add(w);
                        }
                    }
                }
            }
            if (there.contains(end)) {
                return t;
            }
            bar = next(bar);
            int after = bar;
            there.removeIf(w -> hits(after, w));
            here = there;
        }
        return NONE;
    }

    int next(int bar) {
        int place = bar / 8 + 1;
        return place == 4 ? (bar % 8 + b.settings[0]) % 8 : 8 * place + bar % 8;
    }

    /** The first word by trying each: it goes there, a turn passes, and the rest needs one turn less. */
    int first(String from, String end, boolean went) {
        int best = fewest(from, end, went);
        if (best == NONE) {
            return NONE;
        }
        for (String w : b.words) {
            boolean can = w.equals(from) || (!went && linked(from, w) && !barredNow(w));
            if (!can) {
                continue;
            }
            if (w.equals(end)) {
                if (best == 0) {
                    return b.words.indexOf(w);
                }
                continue;
            }
            int bar = barAfter(1);
            if (hits(bar, w)) {
                continue;
            }
            int place = b.place;
            int letter = b.letter;
            b.place = bar / 8;
            b.letter = bar % 8;
            int rest = fewest(w, end, false);
            b.place = place;
            b.letter = letter;
            if (rest != NONE && rest + 1 == best) {
                return b.words.indexOf(w);
            }
        }
        throw new AssertionError("no first word");
    }

    Map<String, Integer> distances(String from) {
        Map<String, Integer> far = new HashMap<>();
        ArrayDeque<String> queue = new ArrayDeque<>();
        far.put(from, 0);
        queue.add(from);
        while (!queue.isEmpty()) {
            String v = queue.remove();
            for (String w : b.words) {
                if (linked(v, w) && !far.containsKey(w)) {
                    far.put(w, far.get(v) + 1);
                    queue.add(w);
                }
            }
        }
        return far;
    }

    int manOn(String w) {
        for (int c = 0; c < 3; c++) {
            if (w.equals(b.men[c].on)) {
                return c;
            }
        }
        return NONE;
    }

    int reason(int c, String w) {
        Man m = b.men[c];
        if (m.on == null) {
            return 1;
        }
        if (m.went) {
            return 2;
        }
        if (!linked(m.on, w)) {
            return 3;
        }
        if (barredNow(w)) {
            return 4;
        }
        return manOn(w) != NONE ? 5 : 0;
    }

    int go(int c, String w) {
        Man m = b.men[c];
        m.on = w;
        m.went = true;
        m.steps++;
        b.climbs++;
        if (!w.equals(m.end)) {
            return 0;
        }
        m.on = null;
        m.ladders++;
        b.done.add(m.steps);
        return 1;
    }

    int pass() {
        int bar = barAfter(1);
        b.place = bar / 8;
        b.letter = bar % 8;
        b.turns++;
        int fallen = 0;
        for (Man m : b.men) {
            m.went = false;
            if (m.on != null && barredNow(m.on)) {
                m.on = null;
                m.falls++;
                fallen++;
            }
        }
        return fallen;
    }

    static boolean whole(String text, int what) {
        return text.matches(what == 0 ? "([0-2][a-h]{4}|t)(;([0-2][a-h]{4}|t))*" : "[a-h]{4}(,[a-h]{4})*");
    }

    /** Whether some whole text begins so: tried by a few endings, one of which always does. */
    static boolean begins(String text, int what) {
        String[] ends = {"", "a", "aa", "aaa", "aaaa", "t", "0aaaa"};
        for (String end : ends) {
            if (whole(text + end, what)) {
                return true;
            }
        }
        return false;
    }

    // ---- the face

    int add() {
        String text = buffer.toString();
        needArgument(whole(text, 1));
        save();
        int added = 0;
        for (String w : text.split(",")) {
            if (b.words.contains(w)) {
                continue;
            }
            if (b.words.size() == 24) {
                break;
            }
            b.words.add(w);
            added++;
        }
        buffer.setLength(0);
        return added;
    }

    int set(int setting, int value) {
        needIndex(setting == 0 || setting == 1);
        needArgument(value >= 1 && value <= 7);
        save();
        int old = b.settings[setting];
        b.settings[setting] = value;
        return old;
    }

    int bar(int place, int letter) {
        needIndex(place >= 0 && place < 4);
        needArgument(letter >= 0 && letter < 8);
        save();
        int old = 8 * b.place + b.letter;
        b.place = place;
        b.letter = letter;
        return old;
    }

    int put(int c, int beginning, int end) {
        needIndex(isMan(c) && isWord(beginning) && isWord(end));
        needArgument(beginning != end);
        String from = b.words.get(beginning);
        needState(b.men[c].on == null && manOn(from) == NONE && !barredNow(from));
        save();
        Man m = b.men[c];
        m.on = from;
        m.beginning = from;
        m.end = b.words.get(end);
        m.went = false;
        m.steps = 0;
        return fewest(from, m.end, false);
    }

    int climb(int c, int w) {
        needIndex(isMan(c) && isWord(w));
        needState(reason(c, b.words.get(w)) == 0);
        save();
        return go(c, b.words.get(w));
    }

    int turn() {
        save();
        return pass();
    }

    int leave(int c) {
        needIndex(isMan(c));
        needState(b.men[c].on != null);
        save();
        int w = b.words.indexOf(b.men[c].on);
        b.men[c].on = null;
        return w;
    }

    int append(int code) {
        needArgument(code >= 33 && code <= 126);
        needState(buffer.length() < 60);
        buffer.append((char) code);
        return buffer.length();
    }

    int clearBuffer() {
        int n = buffer.length();
        buffer.setLength(0);
        return n;
    }

    int firstError(int what) {
        needArgument(what == 0 || what == 1);
        for (int i = 1; i <= buffer.length(); i++) {
            if (!begins(buffer.substring(0, i), what)) {
                return i - 1;
            }
        }
        return buffer.length();
    }

    int play() {
        String text = buffer.toString();
        needArgument(whole(text, 0));
        save();
        buffer.setLength(0);
        int done = 0;
        for (String part : text.split(";")) {
            if (part.equals("t")) {
                pass();
            } else {
                int c = part.charAt(0) - '0';
                String w = part.substring(1);
                if (!b.words.contains(w) || reason(c, w) != 0) {
                    break;
                }
                go(c, w);
            }
            done++;
        }
        return done;
    }

    int keep() {
        kept = b.copy();
        return b.turns;
    }

    int goBack() {
        needState(kept != null);
        save();
        b = kept.copy();
        return b.turns;
    }

    int undo() {
        needState(!saved.isEmpty());
        b = saved.removeLast();
        return saved.size();
    }

    int word(int word, int what) {
        needIndex(isWord(word));
        needArgument(what >= 0 && what <= 9);
        String w = b.words.get(word);
        switch (what) {
            case 4:
                return barredNow(w) ? 1 : 0;
            case 5:
                return (int) b.words.stream().filter(v -> linked(v, w)).count();
            case 6:
                return manOn(w);
            case 7:
                return distances(w).keySet().stream().mapToInt(b.words::indexOf).min().getAsInt();
            case 8:
                return distances(w).size();
            case 9:
                for (int t = 0; t < 100; t++) {
                    if (hits(barAfter(t), w)) {
                        return t;
                    }
                }
                return NONE;
            default:
                return w.charAt(what) - 'a';
        }
    }

    int climber(int c, int what) {
        needIndex(isMan(c));
        needArgument(what >= 0 && what <= 9);
        Man m = b.men[c];
        switch (what) {
            case 0:
                return b.words.indexOf(m.on);
            case 1:
                return b.words.indexOf(m.beginning);
            case 2:
                return b.words.indexOf(m.end);
            case 3:
                return m.on != null && m.went ? 1 : 0;
            case 4:
                return m.steps;
            case 5:
                return m.ladders;
            case 6:
                return m.falls;
            case 9:
                return m.on == null ? NONE : first(m.on, m.end, m.went);
            default:
                return m.on == null ? NONE : fewest(m.on, m.end, m.went);
        }
    }

    int pairs() {
        int n = 0;
        for (String v : b.words) {
            for (String w : b.words) {
                if (v.compareTo(w) < 0 && linked(v, w)) {
                    n++;
                }
            }
        }
        return n;
    }

    int count(int what) {
        needArgument(what >= 0 && what <= 12);
        int n = 0;
        switch (what) {
            case 0:
                return b.words.size();
            case 1:
                return pairs();
            case 2:
            case 3:
                Set<Set<String>> islands = new HashSet<>();
                for (String w : b.words) {
                    islands.add(distances(w).keySet());
                }
                return islands.size();
            case 4:
                return b.place;
            case 5:
                return b.letter;
            case 6:
                return b.turns;
            case 7:
                return (int) b.words.stream().filter(this::barredNow).count();
            case 8:
                for (Man m : b.men) {
                    n += m.on != null ? 1 : 0;
                }
                return n;
            case 9:
                return b.done.size();
            case 10:
                for (Man m : b.men) {
                    n += m.falls;
                }
                return n;
            case 11:
                return b.climbs;
            default:
                return saved.size();
        }
    }

    int setting(int setting) {
        needIndex(setting == 0 || setting == 1);
        return b.settings[setting];
    }

    int why(int c, int w) {
        needIndex(isMan(c) && isWord(w));
        return reason(c, b.words.get(w));
    }

    int plain(int from, int to) {
        needIndex(isWord(from) && isWord(to));
        return distances(b.words.get(from)).getOrDefault(b.words.get(to), NONE);
    }

    int ifPut(int from, int to) {
        needIndex(isWord(from) && isWord(to));
        needArgument(from != to);
        return barredNow(b.words.get(from)) ? NONE : fewest(b.words.get(from), b.words.get(to), false);
    }

    int safest() {
        int best = NONE;
        for (int w = 0; w < b.words.size(); w++) {
            int t = word(w, 9);
            if (t == NONE) {
                return w;
            }
            if (best == NONE || t > word(best, 9)) {
                best = w;
            }
        }
        return best;
    }

    double linkShare() {
        int n = b.words.size();
        return n < 2 ? 0.0 : (double) pairs() / (n * (n - 1) / 2);
    }

    float meanLadder() {
        int sum = b.done.stream().mapToInt(Integer::intValue).sum();
        return b.done.isEmpty() ? 0.0f : (float) sum / b.done.size();
    }

    long digest() {
        List<Long> values = new ArrayList<>();
        for (int i = 0; i <= 12; i++) {
            values.add((long) count(i));
        }
        values.add((long) setting(0));
        values.add((long) setting(1));
        for (int w = 0; w < b.words.size(); w++) {
            for (int i = 0; i <= 9; i++) {
                values.add((long) word(w, i));
            }
        }
        for (int c = 0; c < 3; c++) {
            for (int i = 0; i <= 9; i++) {
                values.add((long) climber(c, i));
            }
        }
        for (int w = 0; w < b.words.size(); w++) {
            values.add((long) plain(0, w));
        }
        values.add((long) safest());
        values.add(Double.doubleToLongBits(linkShare()));
        values.add((long) Float.floatToIntBits(meanLadder()));
        values.add(kept != null ? 1L : 0L);
        values.add((long) buffer.length());
        for (int i = 0; i < buffer.length(); i++) {
            values.add((long) buffer.charAt(i));
        }
        long hash = 3709;
        for (long v : values) {
            hash = 31 * hash + v;
        }
        return hash;
    }
}
