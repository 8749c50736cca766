import java.util.ArrayList;
import java.util.List;
import java.util.function.Supplier;

/**
 * "A call that throws an exception changes nothing. If several exceptions apply, the one that is
 * named first in the throws clause is thrown": for each call that can be refused.
 */
public final class RefusalsTest {
    private static final String INDEX = "IndexOutOfBoundsException";
    private static final String ARGUMENT = "IllegalArgumentException";
    private static final String STATE = "IllegalStateException";
    private static final int[] NO_CLIMBER = {-1, 3, 4, 24, Integer.MIN_VALUE, Integer.MAX_VALUE};
    private static final int[] NO_WORD = {-1, 4, 5, 23, 24, Integer.MIN_VALUE, Integer.MAX_VALUE};

    private interface Act {
        long on(BarredRungs x);
    }

    /**
     * Four words; climber 0 is on the word 1 and went, climber 1 is on the word 3, climber 2 on none
     * after a ladder; the words 0 to 2 are linked in a row; there is a snapshot of another state.
     */
    private static BarredRungs busy() {
        BarredRungs x = Check.with("bbcd,bbce,bbde,hhhh");
        x.put(2, 0, 1);
        x.keep();
        x.climb(2, 1);
        x.turn();
        x.put(1, 3, 0);
        x.put(0, 0, 2);
        x.climb(0, 1);
        Check.type(x, "0b");
        return x;
    }

    private static BarredRungs busyWith(String text) {
        BarredRungs x = busy();
        x.clearBuffer();
        Check.type(x, text);
        return x;
    }

    private static BarredRungs busyAtBar(int place, int letter) {
        BarredRungs x = busy();
        x.bar(place, letter);
        return x;
    }

    private static BarredRungs fullBuffer() {
        return busyWith("t;".repeat(30));
    }

    /** All that can be seen of an object, its saved states and its snapshot, which is used up by that. */
    private static List<Long> trace(BarredRungs x) {
        List<Long> seen = new ArrayList<>();
        seen.add(x.digest());
        while (x.count(12) > 0) {
            x.undo();
            seen.add(x.digest());
        }
        if (Check.outcome(() -> x.goBack()).equals(STATE)) {
            seen.add(-1L);
        }
        seen.add(x.digest());
        return seen;
    }

    private static void refused(String call, String exception, Supplier<BarredRungs> maker, Act act) {
        BarredRungs x = maker.get();
        Check.sameText(call, Check.outcome(() -> act.on(x)), exception);
        Check.isTrue(call + " changed something", trace(x).equals(trace(maker.get())));
    }

    private static void busyRefuses(String call, String exception, Act act) {
        refused(call, exception, RefusalsTest::busy, act);
    }

    /** A call that answers, but is not to change anything. */
    private static void looksOnly(String call, Supplier<BarredRungs> maker, Act act) {
        BarredRungs x = maker.get();
        act.on(x);
        Check.isTrue(call + " changed something", trace(x).equals(trace(maker.get())));
    }

    private static void setAndBar() {
        Check.sentence("set: throws IndexOutOfBoundsException if there is no such setting");
        int[] noSetting = {-1, 2, 3, Integer.MIN_VALUE, Integer.MAX_VALUE};
        int[] values = {1, 7, 0, 8, Integer.MAX_VALUE};
        for (int s : noSetting) {
            for (int v : values) {
                busyRefuses("set(" + s + ", " + v + ")", INDEX, x -> x.set(s, v));
            }
        }
        Check.sentence("set: throws IllegalArgumentException if value is out of range");
        int[] noValue = {0, 8, -1, Integer.MIN_VALUE, Integer.MAX_VALUE};
        for (int v : noValue) {
            busyRefuses("set(0, " + v + ")", ARGUMENT, x -> x.set(0, v));
            busyRefuses("set(1, " + v + ")", ARGUMENT, x -> x.set(1, v));
        }
        Check.sentence("bar: throws IndexOutOfBoundsException if there is no such place");
        int[] noPlace = {-1, 4, 5, Integer.MIN_VALUE, Integer.MAX_VALUE};
        int[] letters = {0, 7, -1, 8, Integer.MIN_VALUE};
        for (int p : noPlace) {
            for (int l : letters) {
                busyRefuses("bar(" + p + ", " + l + ")", INDEX, x -> x.bar(p, l));
            }
        }
        Check.sentence("bar: throws IllegalArgumentException if letter is out of range");
        int[] noLetter = {-1, 8, 'a', Integer.MIN_VALUE, Integer.MAX_VALUE};
        for (int l : noLetter) {
            busyRefuses("bar(0, " + l + ")", ARGUMENT, x -> x.bar(0, l));
            busyRefuses("bar(3, " + l + ")", ARGUMENT, x -> x.bar(3, l));
        }
    }

    private static void put() {
        Check.sentence("put: throws IndexOutOfBoundsException if there is no such climber or word");
        for (int c : NO_CLIMBER) {
            busyRefuses("put(" + c + ", 0, 1)", INDEX, x -> x.put(c, 0, 1));
            busyRefuses("put(" + c + ", 1, 1), both the same", INDEX, x -> x.put(c, 1, 1));
            busyRefuses("put(" + c + ", 1, 0), on another one's word", INDEX, x -> x.put(c, 1, 0));
        }
        for (int w : NO_WORD) {
            busyRefuses("put(2, " + w + ", 0)", INDEX, x -> x.put(2, w, 0));
            busyRefuses("put(2, 0, " + w + ")", INDEX, x -> x.put(2, 0, w));
            busyRefuses("put(2, w, w), both " + w, INDEX, x -> x.put(2, w, w));
            busyRefuses("put(0, 0, " + w + ") of one on a word", INDEX, x -> x.put(0, 0, w));
            busyRefuses("put(2, 1, " + w + ") on another one's word", INDEX, x -> x.put(2, 1, w));
        }
        refused("put(0, 0, 0) without words", INDEX, BarredRungs::new, x -> x.put(0, 0, 0));
        refused("put(2, 0, 24) with 24 words", INDEX, Check::full, x -> x.put(2, 0, 24));

        Check.sentence("put: throws IllegalArgumentException if both words are the same");
        busyRefuses("put(2, 0, 0)", ARGUMENT, x -> x.put(2, 0, 0));
        busyRefuses("put(0, 0, 0) of one on a word", ARGUMENT, x -> x.put(0, 0, 0));
        busyRefuses("put(2, 1, 1) on another one's word", ARGUMENT, x -> x.put(2, 1, 1));
        refused("put(2, 0, 0) on a barred word", ARGUMENT, () -> busyAtBar(0, 1), x -> x.put(2, 0, 0));

        Check.sentence("put: throws IllegalStateException if the climber is on a word, ..");
        busyRefuses("put(0, 0, 2) of one on a word", STATE, x -> x.put(0, 0, 2));
        busyRefuses("put(0, 1, 2) on its own word", STATE, x -> x.put(0, 1, 2));
        busyRefuses("put(1, 2, 3) of one on a word", STATE, x -> x.put(1, 2, 3));
        Check.sentence(".. another one is on the beginning, ..");
        busyRefuses("put(2, 1, 2) on another one's word", STATE, x -> x.put(2, 1, 2));
        busyRefuses("put(2, 3, 0) on another one's word", STATE, x -> x.put(2, 3, 0));
        Check.sentence(".. or that is barred");
        refused("put(2, 0, 1) on a barred word", STATE, () -> busyAtBar(0, 1), x -> x.put(2, 0, 1));
        refused("put(2, 2, 3) on a barred word", STATE, () -> busyAtBar(3, 4), x -> x.put(2, 2, 3));
    }

    private static void climbAndLeave() {
        Check.sentence("climb: throws IndexOutOfBoundsException if there is no such climber or word");
        for (int c : NO_CLIMBER) {
            busyRefuses("climb(" + c + ", 0)", INDEX, x -> x.climb(c, 0));
            busyRefuses("climb(" + c + ", 4)", INDEX, x -> x.climb(c, 4));
        }
        for (int w : NO_WORD) {
            for (int c = 0; c < 3; c++) {
                int climber = c;
                busyRefuses("climb(" + c + ", " + w + ")", INDEX, x -> x.climb(climber, w));
            }
        }
        Check.sentence("climb: throws IllegalStateException if it can not go there");
        busyRefuses("climb(2, 0) of one on none", STATE, x -> x.climb(2, 0));
        busyRefuses("climb(0, 2) of one that went", STATE, x -> x.climb(0, 2));
        busyRefuses("climb(1, 1) to one not linked", STATE, x -> x.climb(1, 1));
        busyRefuses("climb(1, 3) to its own", STATE, x -> x.climb(1, 3));
        refused("climb(2, 1) to a barred one", STATE, RefusalsTest::putNextToBarred, x -> x.climb(2, 1));
        refused("climb(2, 1) to another one's", STATE, RefusalsTest::putNextToAnother, x -> x.climb(2, 1));

        Check.sentence("leave: throws IndexOutOfBoundsException if there is no such climber");
        for (int c : NO_CLIMBER) {
            busyRefuses("leave(" + c + ")", INDEX, x -> x.leave(c));
        }
        Check.sentence("leave: throws IllegalStateException if it is on none");
        busyRefuses("leave(2) after a ladder", STATE, x -> x.leave(2));
        refused("leave(0) of one never put", STATE, BarredRungs::new, x -> x.leave(0));
    }

    private static BarredRungs putNextToAnother() {
        BarredRungs x = busy();
        x.put(2, 0, 3);
        return x;
    }

    private static BarredRungs putNextToBarred() {
        BarredRungs x = busy();
        x.leave(0);
        x.put(2, 0, 3);
        x.bar(3, 4);
        return x;
    }

    private static void texts() {
        Check.sentence("add: throws IllegalArgumentException if the buffer is not complete words as a text");
        String[] noWords = {"", "a", "ab", "abc", "abcd,", "abcd,a", "abcd,abc", ",", ",abcd", "abcd,,abce", "abcde",
            "abcd;abce", "abci", "abcD", "t", "0abcd", "abcd,t", "abcd,abcd,abcd,"};
        for (String text : noWords) {
            refused("add() of " + text, ARGUMENT, () -> busyWith(text), x -> x.add());
        }
        refused("add() of nothing at first", ARGUMENT, BarredRungs::new, x -> x.add());

        Check.sentence("play: throws IllegalArgumentException if the buffer is not complete climbs as a text");
        String[] noClimbs = {"", "0", "0b", "0bb", "0bbc", "0bbcd;", "t;", "t;0", "t;t;", ";", ";t", "t;;t", "tt", "3bbcd",
            "0bbcde", "0bbcd,t", "bbcd", "0bbci", "T", "t;0bbcd;1bbc", "00bbcd", "t;bbcd"};
        for (String text : noClimbs) {
            refused("play() of " + text, ARGUMENT, () -> busyWith(text), x -> x.play());
        }
        refused("play() of nothing at first", ARGUMENT, BarredRungs::new, x -> x.play());

        Check.sentence("append: throws IllegalArgumentException if code is not 33 to 126");
        int[] noCode = {32, 127, 0, -1, 128, 256 + 'a', 65536 + 'a', Integer.MIN_VALUE, Integer.MAX_VALUE};
        for (int code : noCode) {
            busyRefuses("append(" + code + ")", ARGUMENT, x -> x.append(code));
            refused("append(" + code + ") to a full buffer", ARGUMENT, RefusalsTest::fullBuffer, x -> x.append(code));
        }
        Check.sentence("append: throws IllegalStateException if the buffer has 60 characters");
        int[] codes = {33, 126, 't', ';', 'a'};
        for (int code : codes) {
            refused("append(" + code + ") to a full buffer", STATE, RefusalsTest::fullBuffer, x -> x.append(code));
        }
        Check.sentence("firstError: throws IllegalArgumentException if what is not 0 or 1");
        int[] noText = {-1, 2, 3, Integer.MIN_VALUE, Integer.MAX_VALUE};
        for (int what : noText) {
            busyRefuses("firstError(" + what + ")", ARGUMENT, x -> x.firstError(what));
        }
    }

    private static BarredRungs usedUp() {
        BarredRungs x = Check.with("bbbb,bbbc");
        Check.type(x, "abc");
        x.undo();
        return x;
    }

    private static void history() {
        Check.sentence("goBack: throws IllegalStateException if there is no snapshot");
        refused("goBack() at first", STATE, BarredRungs::new, x -> x.goBack());
        refused("goBack() with saved states alone", STATE, Check::full, x -> x.goBack());
        Check.sentence("undo: throws IllegalStateException if there is none");
        refused("undo() at first", STATE, BarredRungs::new, x -> x.undo());
        refused("undo() of more than was saved", STATE, RefusalsTest::usedUp, x -> x.undo());
        Supplier<BarredRungs> keptOnly = () -> {
            BarredRungs x = new BarredRungs();
            x.keep();
            return x;
        };
        refused("undo() with a snapshot alone", STATE, keptOnly, x -> x.undo());
    }

    private static void looks() {
        Check.sentence("word: throws IndexOutOfBoundsException if there is no such word");
        int[] anyWhat = {0, 9, 10, -1, Integer.MAX_VALUE};
        for (int w : NO_WORD) {
            for (int what : anyWhat) {
                busyRefuses("word(" + w + ", " + what + ")", INDEX, x -> x.word(w, what));
            }
        }
        refused("word(0, 0) without words", INDEX, BarredRungs::new, x -> x.word(0, 0));
        refused("word(0, 10) without words", INDEX, BarredRungs::new, x -> x.word(0, 10));
        Check.sentence("word, climber: throws IllegalArgumentException if what is not 0 to 9");
        int[] noWhat = {-1, 10, 11, Integer.MIN_VALUE, Integer.MAX_VALUE};
        for (int what : noWhat) {
            busyRefuses("word(0, " + what + ")", ARGUMENT, x -> x.word(0, what));
            busyRefuses("word(3, " + what + ")", ARGUMENT, x -> x.word(3, what));
            busyRefuses("climber(0, " + what + ")", ARGUMENT, x -> x.climber(0, what));
            busyRefuses("climber(2, " + what + ")", ARGUMENT, x -> x.climber(2, what));
        }
        Check.sentence("climber: throws IndexOutOfBoundsException if there is no such climber");
        for (int c : NO_CLIMBER) {
            for (int what : anyWhat) {
                busyRefuses("climber(" + c + ", " + what + ")", INDEX, x -> x.climber(c, what));
            }
        }
        Check.sentence("count: throws IllegalArgumentException if what is not 0 to 12");
        int[] noCount = {-1, 13, 14, Integer.MIN_VALUE, Integer.MAX_VALUE};
        for (int what : noCount) {
            busyRefuses("count(" + what + ")", ARGUMENT, x -> x.count(what));
        }
        Check.sentence("setting: throws IndexOutOfBoundsException if there is no such setting");
        int[] noSetting = {-1, 2, 3, Integer.MIN_VALUE, Integer.MAX_VALUE};
        for (int s : noSetting) {
            busyRefuses("setting(" + s + ")", INDEX, x -> x.setting(s));
        }
        Check.sentence("why: throws IndexOutOfBoundsException if there is no such climber or word");
        for (int c : NO_CLIMBER) {
            busyRefuses("why(" + c + ", 0)", INDEX, x -> x.why(c, 0));
        }
        for (int w : NO_WORD) {
            busyRefuses("why(0, " + w + ")", INDEX, x -> x.why(0, w));
            busyRefuses("why(2, " + w + "), on none", INDEX, x -> x.why(2, w));
        }
        refused("why(0, 0) without words", INDEX, BarredRungs::new, x -> x.why(0, 0));
    }

    private static void wouldBe() {
        Check.sentence("plain, ifPut: throws IndexOutOfBoundsException if there is no such word");
        for (int w : NO_WORD) {
            busyRefuses("plain(" + w + ", 0)", INDEX, x -> x.plain(w, 0));
            busyRefuses("plain(0, " + w + ")", INDEX, x -> x.plain(0, w));
            busyRefuses("plain(w, w), both " + w, INDEX, x -> x.plain(w, w));
            busyRefuses("ifPut(" + w + ", 0)", INDEX, x -> x.ifPut(w, 0));
            busyRefuses("ifPut(0, " + w + ")", INDEX, x -> x.ifPut(0, w));
            busyRefuses("ifPut(w, w), both " + w, INDEX, x -> x.ifPut(w, w));
        }
        refused("ifPut(0, 4) from a barred word", INDEX, () -> busyAtBar(0, 1), x -> x.ifPut(0, 4));
        refused("plain(0, 0) without words", INDEX, BarredRungs::new, x -> x.plain(0, 0));
        refused("ifPut(0, 0) without words", INDEX, BarredRungs::new, x -> x.ifPut(0, 0));
        Check.sentence("ifPut: throws IllegalArgumentException if both are the same");
        for (int w = 0; w < 4; w++) {
            int word = w;
            busyRefuses("ifPut(w, w), both " + w, ARGUMENT, x -> x.ifPut(word, word));
        }
        refused("ifPut(0, 0), barred", ARGUMENT, () -> busyAtBar(0, 1), x -> x.ifPut(0, 0));
    }

    private static void looksChangeNothing() {
        Check.sentence("looks; nothing is changed");
        for (int what = 0; what <= 9; what++) {
            int number = what;
            for (int w = 0; w < 4; w++) {
                int word = w;
                looksOnly("word(" + w + ", " + what + ")", RefusalsTest::busy, x -> x.word(word, number));
            }
            for (int c = 0; c < 3; c++) {
                int climber = c;
                looksOnly("climber(" + c + ", " + what + ")", RefusalsTest::busy, x -> x.climber(climber, number));
            }
        }
        for (int what = 0; what <= 12; what++) {
            int number = what;
            looksOnly("count(" + what + ")", RefusalsTest::busy, x -> x.count(number));
        }
        looksOnly("setting(0)", RefusalsTest::busy, x -> x.setting(0));
        looksOnly("setting(1)", RefusalsTest::busy, x -> x.setting(1));
        for (int w = 0; w < 4; w++) {
            int word = w;
            looksOnly("why(0, " + w + ")", RefusalsTest::putNextToAnother, x -> x.why(0, word));
            looksOnly("why(2, " + w + ")", RefusalsTest::putNextToAnother, x -> x.why(2, word));
        }
        looksOnly("firstError(0)", RefusalsTest::busy, x -> x.firstError(0));
        looksOnly("firstError(1)", RefusalsTest::busy, x -> x.firstError(1));

        Check.sentence("what would be; nothing is changed");
        for (int v = 0; v < 4; v++) {
            for (int w = 0; w < 4; w++) {
                int from = v;
                int to = w;
                looksOnly("plain(" + v + ", " + w + ")", RefusalsTest::busy, x -> x.plain(from, to));
                if (v != w) {
                    looksOnly("ifPut(" + v + ", " + w + ")", RefusalsTest::busy, x -> x.ifPut(from, to));
                }
            }
        }
        looksOnly("safest()", RefusalsTest::busy, x -> x.safest());
        looksOnly("linkShare()", RefusalsTest::busy, x -> (long) x.linkShare());
        looksOnly("meanLadder()", RefusalsTest::busy, x -> (long) x.meanLadder());
        looksOnly("digest()", RefusalsTest::busy, x -> x.digest());
    }

    public static void main(String[] args) {
        setAndBar();
        put();
        climbAndLeave();
        texts();
        history();
        looks();
        wouldBe();
        looksChangeNothing();
        Check.end("RefusalsTest");
    }
}
