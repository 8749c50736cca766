/** The sentences of promises 5 to 8 (put, climb, turn, leave), at their edges; their refusals are in RefusalsTest. */
public final class ClimberEdgesTest {
    private static void put() {
        Check.sentence("put: Puts a climber on a word, its beginning, with an end.");
        BarredRungs x = Check.full();
        x.bar(0, 7);
        for (int c = 0; c < 3; c++) {
            x.put(c, 23 - c, c);
            int[] due = {23 - c, 23 - c, c, 0, 0, 0, 0};
            for (int what = 0; what < due.length; what++) {
                Check.same("climber(" + c + ", " + what + ")", x.climber(c, what), due[what]);
            }
            Check.same("the climber on it", x.word(23 - c, 6), c);
        }
        Check.same("count(8)", x.count(8), 3);
        Check.same("to put is no climb", x.count(11), 0);

        Check.sentence("put where it is refused only if one is on the beginning, or that is barred");
        BarredRungs y = Check.with("bbbb,bbbc,hhhh");
        y.put(1, 1, 2);
        Check.gives("another one is on the end", () -> y.put(0, 0, 1), 0);
        Check.gives("another one's end is the beginning", () -> y.put(2, 2, 0), -1);
        y.leave(0);
        y.bar(3, 2);
        Check.gives("the end is barred", () -> y.put(0, 0, 1), 1);
        y.leave(0);
        y.bar(2, 2);
        Check.gives("the end is barred in the next turn", () -> y.put(0, 0, 1), 0);
        y.leave(0);
        y.bar(2, 7);
        y.leave(2);
        Check.badState("the beginning is barred", () -> y.put(2, 2, 0));
        y.bar(1, 7);
        Check.badState("the beginning is barred at another place", () -> y.put(2, 2, 0));
        y.bar(0, 6);
        Check.gives("the beginning is not barred", () -> y.put(2, 2, 0), -1);

        Check.sentence("Returns the fewest turns for it; NONE if it can not come to its end.");
        BarredRungs z = Check.with("bbbb,bbbc,bbcc,bccc,hhhh");
        int[] turns = {0, 0, 1, 2, -1};
        for (int end = 1; end <= 4; end++) {
            Check.same("put(0, 0, " + end + ")", z.put(0, 0, end), turns[end]);
            z.leave(0);
        }
        z.bar(1, 1);
        Check.badState("put(0, 0, 1)", () -> z.put(0, 0, 1));
        z.bar(0, 1);
        Check.badState("put(0, 0, 1)", () -> z.put(0, 0, 1));

        Check.sentence("a climber is put anew: its climbs, beginning and end are those of the last put");
        BarredRungs v = Check.with("bbbb,bbbc,bbcc");
        v.put(0, 0, 2);
        v.climb(0, 1);
        v.leave(0);
        Check.same("climbs, while on none", v.climber(0, 4), 1);
        v.put(0, 2, 0);
        int[] due = {2, 2, 0, 0, 0, 0, 0};
        for (int what = 0; what < due.length; what++) {
            Check.same("climber(0, " + what + ")", v.climber(0, what), due[what]);
        }
        Check.same("all climbs", v.count(11), 1);

        Check.sentence("put: Undoable.");
        BarredRungs u = Check.with("bbbb,bbbc,bbcc");
        u.put(0, 0, 2);
        u.leave(0);
        long before = Check.state(u);
        u.put(0, 1, 0);
        Check.same("undo()", u.undo(), 3);
        Check.isTrue("not all is as before", before == Check.state(u));
        Check.same("the beginning of before", u.climber(0, 1), 0);
        Check.same("the end of before", u.climber(0, 2), 2);
    }

    private static void climb() {
        Check.sentence("climb: Lets a climber go to a word.");
        BarredRungs x = Check.with("bbbb,bbbc,bbcc,hhhh");
        for (int c = 0; c < 3; c++) {
            x.put(c, 0, 3);
            Check.same("climb(" + c + ", 1)", x.climb(c, 1), 0);
            Check.same("its word", x.climber(c, 0), 1);
            Check.same("nobody is on the word it left", x.word(0, 6), -1);
            Check.same("it is on the other one", x.word(1, 6), c);
            Check.same("it went", x.climber(c, 3), 1);
            Check.same("its climbs", x.climber(c, 4), 1);
            Check.same("its beginning stays", x.climber(c, 1), 0);
            x.leave(c);
        }
        Check.same("all climbs", x.count(11), 3);

        Check.sentence("Returns 1 if it has done its ladder by that, otherwise 0.");
        BarredRungs y = Check.with("bbbb,bbbc,bbcc");
        y.put(0, 0, 2);
        y.put(1, 2, 1);
        y.bar(0, 7);
        Check.same("to another one's end", y.climb(0, 1), 0);
        y.turn();
        Check.same("to its own beginning", y.climb(0, 0), 0);
        y.turn();
        Check.same("climber 1 to its end", y.climb(1, 1), 1);
        Check.same("climber 0 to the word that is free by that", y.climb(0, 1), 0);
        y.turn();
        Check.same("climber 0 to its end", y.climb(0, 2), 1);
        Check.same("its climbs", y.climber(0, 4), 4);
        Check.same("its ladders", y.climber(0, 5), 1);
        Check.same("all ladders", y.count(9), 2);

        Check.sentence("a word that is barred when the turn passes can be gone to, and makes it fall");
        BarredRungs z = Check.with("bbbb,bbbc,bbcc");
        z.put(0, 0, 2);
        z.bar(2, 2);
        Check.same("climb(0, 1)", z.climb(0, 1), 0);
        Check.same("turn()", z.turn(), 1);
        Check.same("its climbs stay when it fell", z.climber(0, 4), 1);

        Check.sentence("climb: Undoable.");
        BarredRungs v = Check.with("bbbb,bbbc,bbcc");
        v.put(0, 0, 1);
        long before = Check.state(v);
        v.climb(0, 1);
        Check.same("undo() of a ladder", v.undo(), 2);
        Check.isTrue("not all is as before", before == Check.state(v));
        v.climb(0, 1);
        Check.same("ladders", v.count(9), 1);
        Check.sameDouble("the mean has not counted it twice", v.meanLadder(), 1.0f);
    }

    private static void turn() {
        Check.sentence("turn: Lets a turn pass.");
        BarredRungs x = new BarredRungs();
        int[] letters = {0, 3, 6, 1, 4, 7, 2, 5, 0};
        for (int t = 1; t <= 33; t++) {
            Check.same("turn() without words", x.turn(), 0);
            Check.same("turns", x.count(6), t);
            Check.same("the place", x.count(4), t % 4);
            Check.same("the letter", x.count(5), letters[t / 4]);
        }

        Check.sentence("Returns how many climbers fall.");
        BarredRungs y = Check.with("bbbb,bbbc,cbcb,hhhh");
        for (int c = 0; c < 3; c++) {
            y.put(c, c, 3);
        }
        y.bar(1, 5);
        Check.same("none", y.turn(), 0);
        y.bar(2, 2);
        Check.same("bbbc, by place 3 and letter c", y.turn(), 1);
        y.bar(2, 1);
        Check.same("bbbb and cbcb, by place 3 and letter b", y.turn(), 2);
        y.bar(0, 0);
        for (int c = 0; c < 3; c++) {
            y.put(c, c, 3);
        }
        y.bar(0, 1);
        Check.same("all, by place 1 and letter b", y.turn(), 3);
        y.bar(0, 1);
        Check.same("none is there", y.turn(), 0);
        for (int c = 0; c < 3; c++) {
            Check.same("falls of " + c, y.climber(c, 6), 2);
        }
        Check.same("falls", y.count(10), 6);

        Check.sentence("then each climber can go again");
        BarredRungs z = Check.with("bbbb,bbbc,cccc,cccd,hhhh");
        z.put(0, 0, 4);
        z.put(1, 2, 4);
        z.climb(0, 1);
        z.climb(1, 3);
        z.turn();
        Check.same("climber 0", z.climber(0, 3), 0);
        Check.same("climber 1", z.climber(1, 3), 0);
        Check.same("climb(0, 0)", z.climb(0, 0), 0);
        Check.same("climb(1, 2)", z.climb(1, 2), 0);

        Check.sentence("turn: Undoable.");
        z.bar(0, 1);
        long before = Check.state(z);
        Check.same("one falls", z.turn(), 1);
        z.undo();
        Check.isTrue("not all is as before", before == Check.state(z));
        Check.same("also that they went", z.climber(0, 3) + z.climber(1, 3), 2);
    }

    private static void leave() {
        Check.sentence("leave: Takes a climber off its word. Returns the word.");
        BarredRungs x = Check.with("bbbb,bbbc,hhhh");
        for (int c = 0; c < 3; c++) {
            x.put(c, 0, 2);
            Check.same("leave(" + c + ") of its beginning, the word 0", x.leave(c), 0);
            Check.same("it is on none", x.climber(c, 0), -1);
            Check.same("nobody is on the word", x.word(0, 6), -1);
            Check.same("its beginning stays", x.climber(c, 1), 0);
            Check.same("its end stays", x.climber(c, 2), 2);
        }
        x.put(0, 0, 2);
        x.climb(0, 1);
        Check.same("leave(0) of the word where it went", x.leave(0), 1);
        Check.same("it did not go, being on none", x.climber(0, 3), 0);
        Check.same("its climbs stay", x.climber(0, 4), 1);
        Check.same("no fall", x.count(10), 0);
        Check.same("no ladder", x.count(9), 0);
        x.put(1, 2, 0);
        x.bar(0, 7);
        Check.same("leave(1) of a barred word", x.leave(1), 2);

        Check.sentence("leave: Undoable.");
        x.bar(0, 0);
        x.put(0, 0, 2);
        x.climb(0, 1);
        long before = Check.state(x);
        x.leave(0);
        x.undo();
        Check.isTrue("not all is as before", before == Check.state(x));
        Check.same("also that it went", x.why(0, 0), 2);
    }

    public static void main(String[] args) {
        put();
        climb();
        turn();
        leave();
        Check.end("ClimberEdgesTest");
    }
}
