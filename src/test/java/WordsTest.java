/** Promises 2 to 4: add, set, bar. */
public final class WordsTest {
    private static void addTells() {
        BarredRungs x = new BarredRungs();
        Check.type(x, "abcd,abce,abcd,hhhh");
        Check.same("add() with a word twice", x.add(), 3);
        Check.same("the words", x.count(0), 3);
        Check.same("add() clears the buffer", x.clearBuffer(), 0);
        Check.same("the third word's first letter", x.word(2, 0), 7);
        Check.type(x, "hhhh");
        Check.same("add() of a word that is there", x.add(), 0);
        Check.same("that is undoable, too", x.count(12), 2);
        Check.same("undo()", x.undo(), 1);
        Check.same("undo()", x.undo(), 0);
        Check.same("no word is left", x.count(0), 0);
    }

    private static void addRefuses() {
        String[] bad = {"", "abc", "abcd,", "abcd;abce", "abci", "Abcd", "t", "abcde", "abcd,,abce", ",abcd", "0abcd"};
        for (String text : bad) {
            BarredRungs x = new BarredRungs();
            Check.type(x, text);
            Check.badArgument("add() of " + text, () -> x.add());
            Check.same("nothing is saved then", x.count(12), 0);
            Check.same("the buffer stays then", x.clearBuffer(), text.length());
        }
    }

    private static void addIsFull() {
        BarredRungs x = Check.full();
        Check.same("24 words", x.count(0), 24);
        Check.type(x, "hhhh");
        Check.same("add() without room", x.add(), 0);
        Check.type(x, "aaaa,hhhh,aaab");
        Check.same("add() of one that is there, and one without room", x.add(), 0);
        Check.same("still 24", x.count(0), 24);
        Check.same("both are undoable", x.count(12), 5);

        BarredRungs y = Check.full();
        y.undo();
        Check.type(y, "bbba,bbbb,bbbc,bbbd,bbbe,bbbf,bbbg");
        Check.same("add() of seven", y.add(), 7);
        Check.type(y, "bbbg,cccc,cccc,dddd,aaaa");
        Check.same("room for one: add() ends ahead of dddd", y.add(), 1);
        Check.same("the 24th word", y.word(23, 0), 2);
        Check.noSuch("a 25th word", () -> y.word(24, 0));
    }

    private static void setTells() {
        BarredRungs x = Check.with("aaaa,aaab,aaad,aaah");
        Check.same("all are linked", x.count(1), 6);
        Check.gives("set(1, 3)", () -> x.set(1, 3), 7);
        Check.same("aaaa-aaab, aaaa-aaad, aaab-aaad", x.count(1), 3);
        Check.gives("set(1, 4)", () -> x.set(1, 4), 3);
        Check.same("and aaad-aaah", x.count(1), 4);
        Check.gives("set(1, 1)", () -> x.set(1, 1), 4);
        Check.same("aaaa-aaab", x.count(1), 1);
        Check.gives("set(1, 7)", () -> x.set(1, 7), 1);
        Check.gives("set(0, 7)", () -> x.set(0, 7), 3);
        Check.gives("set(0, 7) again", () -> x.set(0, 7), 7);
        Check.same("saved, also if nothing changes", x.count(12), 6);
        for (int i = 0; i < 4; i++) {
            x.turn();
        }
        Check.same("the bar's letter moves by 7", x.count(5), 7);
    }

    private static void setKeepsClimbers() {
        BarredRungs x = Check.with("bbbb,bbbd,bbbh");
        x.put(0, 0, 1);
        x.set(1, 1);
        Check.same("the climber stays", x.climber(0, 0), 0);
        Check.same("it can not come to its end", x.climber(0, 7), -1);
        x.undo();
        Check.same("undo() brings the links back", x.climber(0, 7), 0);
    }

    private static void setRefuses() {
        BarredRungs x = new BarredRungs();
        Check.noSuch("set(2, 1)", () -> x.set(2, 1));
        Check.noSuch("set(-1, 1)", () -> x.set(-1, 1));
        Check.noSuch("set(2, 0): the setting comes first", () -> x.set(2, 0));
        Check.noSuch("set(MIN, MAX)", () -> x.set(Integer.MIN_VALUE, Integer.MAX_VALUE));
        Check.badArgument("set(0, 0)", () -> x.set(0, 0));
        Check.badArgument("set(0, 8)", () -> x.set(0, 8));
        Check.badArgument("set(1, 0)", () -> x.set(1, 0));
        Check.badArgument("set(1, 8)", () -> x.set(1, 8));
        Check.same("nothing saved", x.count(12), 0);
        Check.same("setting 0 as it was", x.setting(0), 3);
        Check.same("setting 1 as it was", x.setting(1), 7);
        Check.gives("set(0, 1)", () -> x.set(0, 1), 3);
        Check.gives("set(1, 1)", () -> x.set(1, 1), 7);
    }

    private static void barTells() {
        BarredRungs x = Check.with("bcde,hhhh");
        x.put(0, 0, 1);
        Check.gives("bar(2, 3)", () -> x.bar(2, 3), 0);
        Check.same("the word is barred", x.word(0, 4), 1);
        Check.same("nobody falls by that", x.climber(0, 0), 0);
        Check.gives("bar(3, 7)", () -> x.bar(3, 7), 19);
        Check.gives("bar(0, 0)", () -> x.bar(0, 0), 31);
        Check.gives("bar(0, 1)", () -> x.bar(0, 1), 0);
        Check.same("saved, too", x.count(12), 6);
        Check.same("the turn passes, and the bar moves on", x.turn(), 0);
        Check.gives("bar(1, 1)", () -> x.bar(1, 1), 9);
        Check.gives("bar(1, 1), nothing changes", () -> x.bar(1, 1), 9);
        Check.same("the climber is still there", x.climber(0, 0), 0);
    }

    private static void barRefuses() {
        BarredRungs x = new BarredRungs();
        Check.noSuch("bar(4, 0)", () -> x.bar(4, 0));
        Check.noSuch("bar(-1, 0)", () -> x.bar(-1, 0));
        Check.noSuch("bar(4, 8): the place comes first", () -> x.bar(4, 8));
        Check.badArgument("bar(0, 8)", () -> x.bar(0, 8));
        Check.badArgument("bar(3, -1)", () -> x.bar(3, -1));
        Check.same("nothing saved", x.count(12), 0);
        Check.same("the place", x.count(4), 0);
        Check.same("the letter", x.count(5), 0);
    }

    public static void main(String[] args) {
        addTells();
        addRefuses();
        addIsFull();
        setTells();
        setKeepsClimbers();
        setRefuses();
        barTells();
        barRefuses();
        Check.end("WordsTest");
    }
}
