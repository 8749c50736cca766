/** Promises 5 to 8: put, climb, turn, leave; and when a climber that went can go again. */
public final class ClimbersTest {
    private static void putTells() {
        BarredRungs x = Check.with("bbbb,bbbc,bbcc,hhhh");
        Check.gives("put next to the end", () -> x.put(0, 0, 1), 0);
        Check.gives("put two climbs away", () -> x.put(1, 2, 0), 1);
        Check.gives("put where no way is", () -> x.put(2, 3, 0), -1);
        Check.same("saved three times and by add", x.count(12), 4);
        Check.same("its word", x.climber(1, 0), 2);
        Check.same("its beginning", x.climber(1, 1), 2);
        Check.same("its end", x.climber(1, 2), 0);
    }

    private static void putRefuses() {
        BarredRungs x = Check.with("bbbb,bbbc,aaaa");
        Check.noSuch("put(3, 0, 1)", () -> x.put(3, 0, 1));
        Check.noSuch("put(-1, 0, 1)", () -> x.put(-1, 0, 1));
        Check.noSuch("put(0, 3, 1)", () -> x.put(0, 3, 1));
        Check.noSuch("put(0, 0, 3)", () -> x.put(0, 0, 3));
        Check.noSuch("put(0, 0, -1)", () -> x.put(0, 0, -1));
        Check.noSuch("put(0, 3, 3): the word comes first", () -> x.put(0, 3, 3));
        Check.badArgument("put(0, 0, 0)", () -> x.put(0, 0, 0));
        Check.badArgument("put(0, 2, 2): before the bar", () -> x.put(0, 2, 2));
        Check.badState("put on a barred word", () -> x.put(0, 2, 0));
        Check.same("nothing saved", x.count(12), 1);
        x.put(0, 0, 1);
        Check.badState("put of one that is on a word", () -> x.put(0, 1, 0));
        Check.badState("put on another one's word", () -> x.put(1, 0, 1));
        Check.badArgument("put(0, 1, 1) of one that is on a word", () -> x.put(0, 1, 1));
        Check.gives("an end may be barred, and another one on it", () -> x.put(1, 1, 0), 0);
        Check.gives("leave(1)", () -> x.leave(1), 1);
        Check.gives("put with a barred end", () -> x.put(1, 1, 2), -1);
        Check.same("nothing else was saved", x.count(12), 5);
        BarredRungs y = Check.with("bbbb,bbbc");
        y.bar(3, 1);
        Check.badState("put on a word that is barred, but not in the next turn", () -> y.put(0, 0, 1));
        y.set(0, 1);
        y.bar(3, 0);
        Check.gives("put on a word that is barred in the next turn, but not now", () -> y.put(0, 0, 1), 0);
    }

    private static void climbGoes() {
        BarredRungs x = Check.with("bbcd,bbce,bbde");
        x.put(0, 0, 2);
        Check.gives("climb(0, 1)", () -> x.climb(0, 1), 0);
        Check.same("it went", x.climber(0, 3), 1);
        Check.badState("it can not go twice in a turn, not to its end either", () -> x.climb(0, 2));
        Check.same("why", x.why(0, 2), 2);
        x.turn();
        Check.same("it did not go in this turn", x.climber(0, 3), 0);
        Check.gives("climb(0, 2) to the end", () -> x.climb(0, 2), 1);
        Check.same("it is on none", x.climber(0, 0), -1);
        Check.same("then 3 tells 0", x.climber(0, 3), 0);
        Check.same("its climbs", x.climber(0, 4), 2);
        Check.same("its ladders", x.climber(0, 5), 1);
        Check.same("all climbs", x.count(11), 2);
        Check.same("its beginning stays", x.climber(0, 1), 0);
        Check.same("its end stays", x.climber(0, 2), 2);
        Check.badState("it is on none", () -> x.climb(0, 1));
    }

    private static void climbRefuses() {
        BarredRungs x = Check.with("bbbb,bbbc");
        x.put(0, 0, 1);
        Check.noSuch("climb(3, 1)", () -> x.climb(3, 1));
        Check.noSuch("climb(-1, 1)", () -> x.climb(-1, 1));
        Check.noSuch("climb(0, 2)", () -> x.climb(0, 2));
        Check.noSuch("climb(0, -1)", () -> x.climb(0, -1));
        Check.noSuch("climb(1, 2): on none, but no such word", () -> x.climb(1, 2));
        Check.badState("climb(1, 0): on none", () -> x.climb(1, 0));
        Check.badState("climb(0, 0): not linked with itself", () -> x.climb(0, 0));
        x.bar(3, 2);
        Check.badState("climb(0, 1): barred", () -> x.climb(0, 1));
        Check.same("nothing saved by these", x.count(12), 3);
        Check.same("no climbs", x.count(11), 0);
    }

    /** "A climber that was put on its beginning in this turn can go, also if it went in it already." */
    private static void canGoWhenPutAnew() {
        BarredRungs x = Check.with("bbbb,bbbc,bbcc");
        x.put(0, 0, 1);
        Check.gives("climb to the end", () -> x.climb(0, 1), 1);
        Check.gives("put anew in the same turn", () -> x.put(0, 0, 1), 0);
        Check.same("it can go", x.why(0, 1), 0);
        Check.same("fewest turns", x.climber(0, 7), 0);
        Check.same("climbs begin anew", x.climber(0, 4), 0);
        Check.gives("climb to the end again", () -> x.climb(0, 1), 1);
        Check.same("two ladders", x.climber(0, 5), 2);
        Check.same("climbs so far", x.count(11), 2);

        x.put(0, 0, 2);
        x.climb(0, 1);
        Check.gives("leave(0)", () -> x.leave(0), 1);
        x.put(0, 0, 2);
        Check.same("put anew after having left", x.why(0, 1), 0);
    }

    private static void turnPasses() {
        BarredRungs x = Check.with("bbcd,bbdd,hhhh,hhhg");
        Check.same("turn()", x.turn(), 0);
        Check.same("the place", x.count(4), 1);
        Check.same("the turns", x.count(6), 1);
        x.turn();
        x.turn();
        Check.same("the place", x.count(4), 3);
        Check.same("the letter", x.count(5), 0);
        x.turn();
        Check.same("the place is 0 again", x.count(4), 0);
        Check.same("the letter moved by 3", x.count(5), 3);
        x.bar(1, 6);
        x.set(0, 5);
        x.turn();
        Check.same("place 2", x.count(4), 2);
        x.turn();
        x.turn();
        Check.same("6 and 5 is 3, modulo 8", x.count(5), 3);
        Check.same("saved states", x.count(12), 6);
    }

    private static void turnFells() {
        BarredRungs x = Check.with("bbcd,bbdd,hhhh,hhhg");
        x.put(0, 0, 1);
        x.put(1, 1, 0);
        x.put(2, 2, 3);
        x.bar(2, 3);
        Check.same("two fall: place 3, letter d", x.turn(), 2);
        Check.same("climber 0 fell", x.climber(0, 6), 1);
        Check.same("climber 0 is on none", x.climber(0, 0), -1);
        Check.same("climber 1 fell", x.climber(1, 6), 1);
        Check.same("climber 2 did not", x.climber(2, 6), 0);
        Check.same("it is where it was", x.climber(2, 0), 2);
        Check.same("falls", x.count(10), 2);
        Check.same("one is on a word", x.count(8), 1);
        Check.same("nobody is on the word", x.word(0, 6), -1);
        Check.same("a fall is no ladder", x.count(9), 0);
    }

    private static void leaveTells() {
        BarredRungs x = Check.with("bbbb,bbbc");
        x.put(2, 1, 0);
        Check.noSuch("leave(3)", () -> x.leave(3));
        Check.noSuch("leave(-1)", () -> x.leave(-1));
        Check.badState("leave(0)", () -> x.leave(0));
        Check.same("nothing saved by these", x.count(12), 2);
        Check.gives("leave(2)", () -> x.leave(2), 1);
        Check.same("on none", x.climber(2, 0), -1);
        Check.same("no fall", x.climber(2, 6), 0);
        Check.same("saved", x.count(12), 3);
        Check.badState("leave(2) again", () -> x.leave(2));
        Check.gives("undo()", () -> x.undo(), 2);
        Check.same("it is there again", x.climber(2, 0), 1);
    }

    private static void fewestTurns() {
        BarredRungs x = Check.with("bbbb,bbbc,bbcc");
        x.put(0, 0, 2);
        x.climb(0, 1);
        Check.same("it went: it can only stay in this turn", x.climber(0, 7), 1);
        Check.same("told from the end", x.climber(0, 8), 1);
        Check.same("it stays first", x.climber(0, 9), 1);
        x.bar(2, 1);
        Check.same("its word will be barred next: place 3, letter b; it is bbbc", x.climber(0, 7), 1);
        x.bar(2, 2);
        Check.same("now place 3, letter c: it falls", x.climber(0, 7), -1);
        Check.same("told from the end", x.climber(0, 8), -1);
        Check.same("and has no first word", x.climber(0, 9), -1);

        BarredRungs y = Check.with("bbbb,bbbc,hbbb");
        y.bar(3, 2);
        Check.gives("the end is barred now: it waits", () -> y.put(0, 0, 1), 1);
        Check.same("so it stays", y.climber(0, 9), 0);
        y.bar(3, 1);
        Check.same("on a barred word it can go, as no turn passes", y.climber(0, 7), 0);
        Check.same("another one, to a barred end", y.put(1, 1, 0), 1);
        Check.same("as if there were no others", y.climber(0, 7), 0);
        Check.same("but now it can not go there", y.why(0, 1), 5);
    }

    /** Both of its ways are as good; the one with the lowest number is told. */
    private static void firstOfSeveral() {
        BarredRungs x = Check.with("cccc,egcc,eccc,cgcc");
        x.put(0, 0, 1);
        Check.same("by eccc or by cgcc", x.climber(0, 9), 2);
        Check.same("one turn", x.climber(0, 7), 1);
        x.bar(0, 4);
        Check.same("eccc is barred now", x.climber(0, 9), 3);
        BarredRungs y = Check.with("eecc,eccc,cccc,gecc");
        y.put(0, 2, 0);
        y.bar(3, 2);
        Check.same("all are barred now but the own one, and then letter f", y.climber(0, 9), 2);
        Check.same("so two turns, the bar being at place 0, letter f", y.climber(0, 7), 2);
    }

    public static void main(String[] args) {
        putTells();
        putRefuses();
        climbGoes();
        climbRefuses();
        canGoWhenPutAnew();
        turnPasses();
        turnFells();
        leaveTells();
        fewestTurns();
        firstOfSeveral();
        Check.end("ClimbersTest");
    }
}
