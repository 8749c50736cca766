/** Promises 9 to 12: append, clearBuffer, firstError, play. */
public final class TextsTest {
    private static void appendTells() {
        BarredRungs x = new BarredRungs();
        Check.badArgument("append(32)", () -> x.append(32));
        Check.badArgument("append(127)", () -> x.append(127));
        Check.badArgument("append(-1)", () -> x.append(-1));
        Check.gives("append(33)", () -> x.append(33), 1);
        Check.gives("append(126)", () -> x.append(126), 2);
        for (int i = 3; i <= 60; i++) {
            int length = i;
            Check.gives("append number " + i, () -> x.append('a'), length);
        }
        Check.badState("append to 60", () -> x.append('a'));
        Check.badArgument("append(32) to 60: the code comes first", () -> x.append(32));
        Check.same("not undoable", x.count(12), 0);
        Check.same("clearBuffer()", x.clearBuffer(), 60);
        Check.same("clearBuffer() again", x.clearBuffer(), 0);
        Check.same("not undoable", x.count(12), 0);
        Check.gives("append after clearBuffer()", () -> x.append('b'), 1);
        Check.same("what was there is gone", x.firstError(1), 1);
    }

    private static void error(String text, int climbs, int words) {
        BarredRungs x = new BarredRungs();
        Check.type(x, text);
        Check.gives("firstError(0) of " + text, () -> x.firstError(0), climbs);
        Check.gives("firstError(1) of " + text, () -> x.firstError(1), words);
        Check.same("the buffer stays", x.clearBuffer(), text.length());
    }

    private static void firstErrorTells() {
        error("", 0, 0);
        error("abcd", 0, 4);
        error("abcd,", 0, 5);
        error("abcd,efgh,aaaa", 0, 14);
        error("abcd,,", 0, 5);
        error("abcde", 0, 4);
        error("abci", 0, 3);
        error("abcd;", 0, 4);
        error("ABCD", 0, 0);
        error("a`", 0, 1);
        error("0abcd", 5, 0);
        error("2abcd;t;1hhhh", 13, 0);
        error("3abcd", 0, 0);
        error("/abcd", 0, 0);
        error("0abc;", 4, 0);
        error("0abcd,", 5, 0);
        error("0abcda", 5, 0);
        error("t", 1, 0);
        error("tt", 1, 0);
        error("t;;", 2, 0);
        error("t;t;x;t", 4, 0);
        error(";", 0, 0);
        error("0tttt", 1, 0);
        error("t;0", 3, 0);
        BarredRungs x = new BarredRungs();
        Check.badArgument("firstError(2)", () -> x.firstError(2));
        Check.badArgument("firstError(-1)", () -> x.firstError(-1));
        StringBuilder twelve = new StringBuilder("abcd");
        for (int i = 1; i < 12; i++) {
            twelve.append(",abcd");
        }
        error(twelve + ",", 0, 60);
    }

    private static void playRefuses() {
        String[] bad = {"", "t;", "0abc", "abcd", "0abcd,t", "t;t;", "3abcd", ";t", "tt", "0abcd;1"};
        for (String text : bad) {
            BarredRungs x = new BarredRungs();
            Check.type(x, text);
            Check.badArgument("play() of " + text, () -> x.play());
            Check.same("no turn passed", x.count(6), 0);
            Check.same("nothing saved", x.count(12), 0);
            Check.same("the buffer stays", x.clearBuffer(), text.length());
        }
    }

    private static void played(BarredRungs x, String text, int due) {
        Check.type(x, text);
        Check.gives("play() of " + text, () -> x.play(), due);
        Check.same("it clears the buffer", x.clearBuffer(), 0);
    }

    private static void playDoes() {
        BarredRungs x = Check.with("bbcd,bbce,bbde");
        played(x, "0bbce;t;t", 0);
        Check.same("ends at the first one: no turn passed", x.count(6), 0);
        Check.same("undoable, also if none is done", x.count(12), 2);
        x.put(0, 0, 2);
        played(x, "0bbce;t;0bbde;t;0bbcd;t", 4);
        Check.same("two turns", x.count(6), 2);
        Check.same("a ladder", x.count(9), 1);
        Check.same("two climbs", x.count(11), 2);
        Check.same("saved as one call", x.count(12), 4);
        Check.gives("undo()", () -> x.undo(), 3);
        Check.same("no turns", x.count(6), 0);
        Check.same("no climbs", x.count(11), 0);
        Check.same("it is at its beginning", x.climber(0, 0), 0);
        played(x, "0bbce;t;0bbcd;t;0hhhh;t", 4);
        Check.same("it is at the word 0 again", x.climber(0, 0), 0);
        Check.gives("undo()", () -> x.undo(), 3);
        played(x, "t;0bbcc;t", 1);
        Check.same("a word that is not there: one turn", x.count(6), 1);
        played(x, "2bbcd", 0);
        played(x, "t;0bbce;0bbde", 2);
        Check.same("it can not go twice in a turn", x.climber(0, 0), 1);
        Check.same("two turns in all", x.count(6), 2);
        played(x, "t;t;t;t;t;t;t;t;t;t;t;t;t;t;t;t;t;t;t;t", 20);
        Check.same("it fell: place 2, letter c", x.count(10), 1);
        Check.same("turns", x.count(6), 22);
    }

    public static void main(String[] args) {
        appendTells();
        firstErrorTells();
        playRefuses();
        playDoes();
        Check.end("TextsTest");
    }
}
