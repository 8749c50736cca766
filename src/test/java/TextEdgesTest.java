/** The sentences of promises 9 to 12 and of "Input text", at their edges; their refusals are in RefusalsTest. */
public final class TextEdgesTest {
    private static final String LETTERS = "abcdefgh";

    private static void append() {
        Check.sentence("append: code: the character code, 33 to 126");
        for (int code = 0; code <= 200; code++) {
            int c = code;
            BarredRungs x = new BarredRungs();
            String due = code >= 33 && code <= 126 ? "1" : "IllegalArgumentException";
            Check.sameText("append(" + code + ")", Check.outcome(() -> x.append(c)), due);
            Check.same("the length", x.clearBuffer(), due.equals("1") ? 1 : 0);
        }

        Check.sentence("append: Returns the new length of the buffer.");
        BarredRungs y = new BarredRungs();
        for (int i = 1; i <= 60; i++) {
            Check.same("append", y.append(32 + i), i);
        }
        Check.badState("append of one more", () -> y.append('a'));
        Check.same("its 60 characters are there", y.digest(), Check.hashOf(y, false, signs(60)));

        Check.sentence("append is not marked undoable");
        Check.same("count(12)", y.count(12), 0);
    }

    private static String signs(int n) {
        StringBuilder text = new StringBuilder();
        for (int i = 1; i <= n; i++) {
            text.append((char) (32 + i));
        }
        return text.toString();
    }

    private static void clearBuffer() {
        Check.sentence("clearBuffer: Clears the buffer. Returns the length that it had.");
        BarredRungs x = new BarredRungs();
        Check.same("of an empty one", x.clearBuffer(), 0);
        int[] lengths = {1, 59, 60, 2};
        for (int n : lengths) {
            Check.type(x, signs(n));
            Check.same("of " + n, x.clearBuffer(), n);
            Check.same("then it is empty", x.clearBuffer(), 0);
            Check.same("for the digest, too", x.digest(), Check.hashOf(x, false, ""));
        }
        Check.same("the next character is the first one", x.append('a'), 1);

        Check.sentence("clearBuffer is not marked undoable");
        Check.same("count(12)", x.count(12), 0);
    }

    /** Each code behind a faultless beginning: an error, or one of those that may come. */
    private static void next(int what, String before, String may) {
        for (int code = 33; code <= 126; code++) {
            BarredRungs x = new BarredRungs();
            Check.type(x, before + (char) code);
            int due = may.indexOf(code) < 0 ? before.length() : before.length() + 1;
            Check.same("firstError(" + what + ") of " + before + (char) code, x.firstError(what), due);
        }
    }

    private static void firstErrorOfClimbs() {
        Check.sentence("Climbs as a text are one or more parts with \";\" between them: the digit of a climber, 0 to 2, ..");
        next(0, "", "012t");
        next(0, "t;", "012t");
        next(0, "0abcd;", "012t");
        next(0, "t;2hgfe;", "012t");
        Check.sentence(".. and the four letters of a word, ..");
        String[] begun = {"0", "1a", "2ah", "0abc", "t;0", "t;1h", "0abcd;2ab", "t;t;0hhh"};
        for (String before : begun) {
            next(0, before, LETTERS);
        }
        Check.sentence(".. or t");
        String[] whole = {"t", "0abcd", "t;t", "1hhhh;t", "t;2aaaa"};
        for (String before : whole) {
            next(0, before, ";");
        }
    }

    private static void firstErrorOfWords() {
        Check.sentence("Words as a text are one or more words with \",\" between them.");
        String[] begun = {"", "a", "ah", "abc", "abcd,", "abcd,e", "abcd,ef", "abcd,efg", "aaaa,aaaa,"};
        for (String before : begun) {
            next(1, before, LETTERS);
        }
        String[] whole = {"abcd", "abcd,efgh", "aaaa,aaaa,hhhh"};
        for (String before : whole) {
            next(1, before, ",");
        }
    }

    private static void errors(String text, int climbs, int words) {
        BarredRungs x = new BarredRungs();
        Check.type(x, text);
        Check.same("firstError(0) of " + text, x.firstError(0), climbs);
        Check.same("firstError(1) of " + text, x.firstError(1), words);
    }

    private static void firstError() {
        Check.sentence("firstError: Returns the index of the first character that is a syntax error");
        errors("xyz", 0, 0);
        errors("t;x;y", 2, 0);
        errors("abcd,xbcd,ybcd", 0, 5);
        Check.sentence("what comes behind it does not matter");
        errors("t;tt;t;0abcd", 3, 0);
        errors("abc,abcd,abcd", 0, 3);
        errors("t,t;t", 1, 0);
        errors("abcd;abcd,abcd", 0, 4);
        Check.sentence("the length of the buffer if there is none");
        errors("", 0, 0);
        errors("t", 1, 0);
        errors("t;", 2, 0);
        errors("0", 1, 0);
        errors("a", 0, 1);
        errors("abcd,efgh", 0, 9);
        Check.sentence("no such text, of any length, begins so: a text may be too long for the buffer");
        errors("t;".repeat(30), 60, 0);
        errors("0abcd;".repeat(10), 60, 0);
        errors("abcd,".repeat(12), 0, 60);
        errors("t;".repeat(29) + "0a", 60, 0);
        errors("t;".repeat(29) + "tt", 59, 0);
        errors("abcd,".repeat(11) + "abcde", 0, 59);
        Check.sentence("a word or a climber that is not there is no syntax error");
        errors("0abcd;0hhhh", 11, 0);
    }

    private static BarredRungs ready() {
        BarredRungs x = Check.with("bbbb,bbbc,bbcc,hhhh");
        x.put(0, 0, 2);
        x.put(1, 3, 0);
        return x;
    }

    private static int play(BarredRungs x, String text) {
        x.clearBuffer();
        Check.type(x, text);
        return x.play();
    }

    private static void play() {
        Check.sentence("play: Does the climbs in the buffer as climb() and turn() do, one after the other");
        BarredRungs x = ready();
        BarredRungs y = ready();
        Check.same("play()", play(x, "0bbbc;t;0bbcc;t;t"), 5);
        y.climb(0, 1);
        y.turn();
        y.climb(0, 2);
        y.turn();
        y.turn();
        Check.isTrue("not all is as by climb() and turn()", Check.state(x) == Check.state(y));
        Check.same("one ladder", x.count(9), 1);
        Check.sameDouble("its climbs", x.meanLadder(), 2.0f);
        BarredRungs z = ready();
        z.bar(0, 7);
        Check.same("play() of a turn by which nobody falls", play(z, "t"), 1);
        z.bar(2, 7);
        Check.same("play() of a turn by which one falls", play(z, "t"), 1);
        Check.same("falls", z.count(10), 1);

        Check.sentence("as many as the buffer has room for");
        BarredRungs v = new BarredRungs();
        Check.same("thirty turns", play(v, "t;".repeat(29) + "t"), 30);
        Check.same("turns", v.count(6), 30);
        Check.same("the place", v.count(4), 2);

        Check.sentence("a new object's climbs by each climber");
        for (int c = 0; c < 3; c++) {
            BarredRungs u = Check.with("bbbb,bbbc,bbcc");
            u.put(c, 0, 2);
            Check.same("play() of climber " + c, play(u, c + "bbbc"), 1);
            Check.same("its word", u.climber(c, 0), 1);
            Check.same("it went", u.climber(c, 3), 1);
        }
    }

    /** Plays a text and looks at how many were done, and at the turns and climbs then. */
    private static void stops(String what, String text, int done, int turns, int climbs) {
        BarredRungs x = ready();
        Check.same(what + ": play()", play(x, text), done);
        Check.same(what + ": turns", x.count(6), turns);
        Check.same(what + ": climbs", x.count(11), climbs);
        Check.same(what + ": the buffer is cleared", x.clearBuffer(), 0);
        Check.same(what + ": saved once", x.count(12), 4);
        x.undo();
        Check.isTrue(what + ": undo() did not bring all back", Check.state(x) == Check.state(ready()));
    }

    private static void playStops() {
        Check.sentence("play: up to the first one that would throw an exception");
        stops("1: on none", "t;2bbbb;t", 1, 1, 0);
        stops("2: it went", "0bbbc;0bbcc;t", 1, 0, 1);
        stops("3: not linked", "t;t;0bbcc;0bbbc;t", 2, 2, 0);
        stops("3: its own word", "0bbbb;0bbbc", 0, 0, 0);
        BarredRungs x = ready();
        x.bar(3, 2);
        Check.same("4: barred", play(x, "0bbbc;t"), 0);
        x.bar(0, 0);
        x.put(2, 1, 0);
        Check.same("5: another one is on it", play(x, "0bbbc;2bbcc"), 0);
        Check.same("but not when that has gone", play(x, "2bbcc;0bbbc"), 2);

        Check.sentence("(a word that is not there, too)");
        stops("a word that is not there", "t;0bbbd;0bbbc;t", 1, 1, 0);
        stops("at the very first", "0bbbd;0bbbc;t", 0, 0, 0);
        stops("of one that is on none", "2aaaa;t", 0, 0, 0);
        BarredRungs y = new BarredRungs();
        Check.same("without words", play(y, "t;0aaaa;t"), 1);

        Check.sentence("play: clears the buffer. Undoable, as one call, also if none is done.");
        stops("all done", "0bbbc;t;0bbcc;t", 4, 2, 2);
        stops("none done", "1bbbb;t", 0, 0, 0);
        BarredRungs z = ready();
        play(z, "t");
        long before = Check.state(z);
        play(z, "0bbbc;t;t;t;t;t;t;t;t;0bbbb");
        Check.same("saved once", z.count(12), 5);
        Check.same("undo()", z.undo(), 4);
        Check.isTrue("not all is as before", before == Check.state(z));

        Check.sentence("when a climber has done its ladder or fallen by the text, it is on none for the rest of it");
        BarredRungs v = Check.with("bbbb,bbbc,hhhh");
        v.put(0, 0, 1);
        Check.same("done", play(v, "0bbbc;t;0bbbb"), 2);
        v.put(0, 0, 2);
        v.bar(0, 1);
        Check.same("fallen", play(v, "t;0bbbc"), 1);
    }

    public static void main(String[] args) {
        append();
        clearBuffer();
        firstErrorOfClimbs();
        firstErrorOfWords();
        firstError();
        play();
        playStops();
        Check.end("TextEdgesTest");
    }
}
