/** The sentences of promises 2 to 4 (add, set, bar), at their edges; their refusals are in RefusalsTest. */
public final class WordEdgesTest {
    private static void add() {
        Check.sentence("add: Adds the words that the buffer tells, one after the other");
        BarredRungs x = new BarredRungs();
        Check.type(x, "hgfe");
        Check.same("add() of a single word", x.add(), 1);
        Check.type(x, "abcd,bcda,cdab");
        Check.same("add() of three", x.add(), 3);
        int[] first = {7, 0, 1, 2};
        for (int w = 0; w < 4; w++) {
            Check.same("the first letter of " + w, x.word(w, 0), first[w]);
        }

        Check.sentence("as many words as the buffer has room for");
        BarredRungs longest = new BarredRungs();
        Check.type(longest, "aaaa,aaab,aaac,aaad,aaae,aaaf,aaag,aaah,aaba,aabb,aabc,aabd");
        Check.same("add() of 59 characters", longest.add(), 12);

        Check.sentence("words that are there already are passed over");
        Check.type(x, "cdab,hhhh,abcd,hhhh,gggg");
        Check.same("add() of two that are there, and one twice", x.add(), 2);
        Check.same("hhhh is 4", x.word(4, 0), 7);
        Check.same("gggg is 5", x.word(5, 0), 6);
        Check.same("count(0)", x.count(0), 6);

        Check.sentence("It clears the buffer.");
        Check.same("clearBuffer() after add()", x.clearBuffer(), 0);
        Check.type(x, "gggg");
        x.add();
        Check.same("clearBuffer() after add() of none", x.clearBuffer(), 0);
        Check.type(x, "aaaa");
        Check.same("the next words begin anew", x.firstError(1), 4);
    }

    private static BarredRungs with22() {
        BarredRungs x = Check.full();
        x.undo();
        Check.type(x, "bbba,bbbb,bbbc,bbbd,bbbe,bbbf");
        Check.same("add() of six to 16", x.add(), 6);
        return x;
    }

    private static void noRoom() {
        Check.sentence("add: it ends ahead of the first one for which there is no room");
        BarredRungs x = with22();
        Check.type(x, "cccc,bbba,cccc,dddd,eeee,aaaa");
        Check.same("room for two, some there already", x.add(), 2);
        Check.same("count(0)", x.count(0), 24);
        Check.same("cccc is 22", x.word(22, 0), 2);
        Check.same("dddd is 23", x.word(23, 0), 3);
        Check.same("the buffer is cleared, with what it did not come to", x.clearBuffer(), 0);
        BarredRungs y = with22();
        Check.type(y, "cccc,dddd");
        Check.same("room for just these", y.add(), 2);
        Check.type(y, "dddd,eeee");
        Check.same("no room", y.add(), 0);
        Check.same("the buffer is cleared", y.clearBuffer(), 0);
        Check.same("count(0)", y.count(0), 24);
        Check.noSuch("word(24, 0)", () -> y.word(24, 0));
        BarredRungs z = with22();
        Check.type(z, "cccc");
        z.add();
        Check.type(z, "dddd,eeee");
        Check.same("room for one", z.add(), 1);
        Check.same("the 24th is dddd", z.word(23, 0), 3);

        Check.sentence("Undoable, also if none is added.");
        int saved = Check.with("aaaa").count(12);
        Check.same("one is added", saved, 1);
        BarredRungs v = Check.with("aaaa");
        Check.type(v, "aaaa");
        Check.same("none is added, as it is there", v.add(), 0);
        Check.same("saved", v.count(12), 2);
        Check.same("undo()", v.undo(), 1);
        Check.same("count(0)", v.count(0), 1);
        Check.same("undo()", v.undo(), 0);
        Check.same("count(0)", v.count(0), 0);
        BarredRungs full = Check.full();
        Check.type(full, "hhhh");
        full.add();
        Check.same("none is added, as there is no room", full.count(12), 4);
        full.undo();
        full.undo();
        Check.same("undo() of the one that filled it", full.count(0), 16);
        Check.type(full, "hhhh");
        Check.same("then there is room again", full.add(), 1);
    }

    private static void set() {
        Check.sentence("set: Changes a setting");
        BarredRungs x = new BarredRungs();
        for (int v = 1; v <= 7; v++) {
            x.set(0, v);
            Check.same("setting(0)", x.setting(0), v);
            Check.same("setting(1) as it was", x.setting(1), 7);
        }
        for (int v = 1; v <= 7; v++) {
            x.set(1, v);
            Check.same("setting(1)", x.setting(1), v);
            Check.same("setting(0) as it was", x.setting(0), 7);
        }

        Check.sentence("the climbers stay where they are");
        BarredRungs y = Check.with("bbbb,bbbd,hhhh");
        y.put(0, 0, 1);
        y.put(1, 2, 0);
        y.set(1, 1);
        y.set(0, 7);
        Check.same("climber 0, who has no link now", y.climber(0, 0), 0);
        Check.same("climber 1", y.climber(1, 0), 2);
        Check.same("no falls", y.count(10), 0);
        Check.same("its end is too far", y.why(0, 1), 3);
        y.set(1, 2);
        Check.same("its end is near enough", y.why(0, 1), 0);

        Check.sentence("Returns the previous value.");
        BarredRungs z = new BarredRungs();
        Check.same("set(0, 3), what it is at first", z.set(0, 3), 3);
        Check.same("set(1, 1)", z.set(1, 1), 7);
        Check.same("set(0, 5)", z.set(0, 5), 3);
        Check.same("set(1, 2)", z.set(1, 2), 1);
        Check.same("set(0, 4)", z.set(0, 4), 5);

        Check.sentence("set: Undoable.");
        Check.same("saved, also if it changes nothing", z.count(12), 5);
        z.undo();
        Check.same("setting(0)", z.setting(0), 5);
        z.undo();
        Check.same("setting(1)", z.setting(1), 1);

        Check.sentence("the letter of the bar moves by the setting that is when a turn passes");
        BarredRungs v = new BarredRungs();
        v.bar(3, 0);
        v.set(0, 7);
        v.turn();
        Check.same("the letter", v.count(5), 7);
        v.set(0, 1);
        Check.same("the letter stays until then", v.count(5), 7);
    }

    private static void bar() {
        Check.sentence("bar: Puts the bar elsewhere. Returns 8 times the place and the letter that it had.");
        BarredRungs x = new BarredRungs();
        int had = 0;
        for (int place = 0; place < 4; place++) {
            for (int letter = 0; letter < 8; letter++) {
                Check.same("bar(" + place + ", " + letter + ")", x.bar(place, letter), had);
                Check.same("the place", x.count(4), place);
                Check.same("the letter", x.count(5), letter);
                had = 8 * place + letter;
            }
        }
        x.turn();
        Check.same("a turn after place 3, letter 7: letter 2", x.bar(1, 1), 2);

        Check.sentence("nobody falls by that before a turn passes");
        BarredRungs y = Check.with("bbbb,cccc,dddd,hhhh");
        for (int c = 0; c < 3; c++) {
            y.put(c, c, 3);
            y.bar(2, c + 1);
            Check.same("the word of climber " + c + " is barred", y.word(c, 4), 1);
            Check.same("it is there", y.climber(c, 0), c);
            Check.same("no fall", y.climber(c, 6), 0);
        }
        Check.same("when the turn passes, the bar has moved to place 3, letter d", y.turn(), 1);
        Check.same("climber 2 fell", y.climber(2, 0), -1);

        Check.sentence("nor ever, if it moves off the word");
        BarredRungs z = Check.with("bccc,hhhh");
        z.put(0, 0, 1);
        z.bar(0, 1);
        Check.same("nobody falls", z.turn(), 0);
        Check.same("it is there", z.climber(0, 0), 0);

        Check.sentence("bar: Undoable.");
        BarredRungs v = new BarredRungs();
        v.bar(0, 0);
        Check.same("saved, also if it changes nothing", v.count(12), 1);
        v.bar(2, 5);
        Check.same("undo()", v.undo(), 1);
        Check.same("the place", v.count(4), 0);
        Check.same("the letter", v.count(5), 0);
        Check.same("no turn passes by that", v.count(6), 0);
    }

    public static void main(String[] args) {
        add();
        noRoom();
        set();
        bar();
        Check.end("WordEdgesTest");
    }
}
